/** Promise 4: the edges of the rules 1 to 6 that a file is judged by, and of their order. */
public final class TableEdgeTest extends Edges {
    private static final int ENTRY = 12 + 7 * 16;

    public static void main(String[] args) {
        version();
        tableCount();
        everyLength();
        risingTags();
        offsets();
        tablesInTheFile();
        sums();
        sumOfHead();
        tablesThatMustBe();
        bytesNotToldOf();
        head();
        maxp();
        hhea();
        hheaOfGreatUnits();
        hmtxLength();
        advances();
        greatAdvances();
        locaLength();
        locaOrder();
        locaEnd();
        order();
        whatStays();
        CHECK.finish();
    }

    private static void version() {
        sentence("DIRECTORY: 4 bytes 65536");
        byte[] good = FontMaker.plain().file();
        judged("65536", good, GOOD);
        for (long other : new long[] {0, 65535, 65537, 65536 + (1L << 31), 131072, 256}) {
            judged(other + "", putFour(good, 0, other), DIRECTORY);
        }
    }

    private static void tableCount() {
        sentence("n (2 bytes), 1 to 16");
        judged("7 tables", withTables(0), GOOD);
        judged("8 tables", withTables(1), GOOD);
        judged("15 tables", withTables(8), GOOD);
        judged("16 tables", withTables(9), GOOD);
        judged("17 tables", withTables(10), DIRECTORY);
        byte[] good = FontMaker.plain().file();
        for (int n : new int[] {0, 1, 6, 256 + 7, 65535}) {
            judged(n + " told, 7 there", put(good, 4, n), DIRECTORY);
        }
    }

    private static byte[] withTables(int more) {
        FontMaker maker = FontMaker.plain();
        for (int i = 0; i < more; i++) {
            maker.tables.put("zz" + (char) ('a' + i) + "z", new byte[i]);
        }
        return maker.file();
    }

    /** Cut anywhere before the end of its last table, maxp, the file is faulty. */
    private static void everyLength() {
        sentence("the table in the file");
        byte[] good = FontMaker.plain().file();
        int padding = 2;
        for (int n = 0; n <= good.length; n++) {
            judged("its first " + n + " bytes", cut(good, n),
                    n < good.length - padding ? DIRECTORY : GOOD);
        }
        judged("bytes behind it", cut(good, good.length + 40), GOOD);
    }

    private static void risingTags() {
        sentence("a tag (4 bytes, rising)");
        judged("zzzy, zzzz", twoTags(0x7A7A7A79L, 0x7A7A7A7AL), GOOD);
        judged("zzzz twice", twoTags(0x7A7A7A7AL, 0x7A7A7A7AL), DIRECTORY);
        judged("zzzz, zzzy", twoTags(0x7A7A7A7AL, 0x7A7A7A79L), DIRECTORY);
        judged("maxp again, of the same bytes", twoTags(0x6D617870L, 0x7A7A7A7AL), DIRECTORY);
        judged("maxq behind maxp", twoTags(0x6D617871L, 0x7A7A7A7AL), GOOD);
        judged("maxo behind maxp", twoTags(0x6D61786FL, 0x7A7A7A7AL), DIRECTORY);
        judged("2^31 - 1, 2^31", twoTags(0x7FFFFFFFL, 0x80000000L), GOOD);
        judged("2^31, 2^31 - 1", twoTags(0x80000000L, 0x7FFFFFFFL), DIRECTORY);
        judged("2^32 - 2, 2^32 - 1", twoTags(0xFFFFFFFEL, 0xFFFFFFFFL), GOOD);
        byte[] good = FontMaker.plain().file();
        byte[] swapped = good.clone();
        System.arraycopy(good, 12, swapped, 28, 16);
        System.arraycopy(good, 28, swapped, 12, 16);
        judged("glyf, cmap", swapped, DIRECTORY);
        judged("a tag 0 before all", tagZero(), GOOD);
    }

    /** Two tables without bytes behind the seven. */
    private static byte[] twoTags(long first, long second) {
        FontMaker maker = FontMaker.plain();
        maker.tables.put("zzzy", new byte[0]);
        maker.tables.put("zzzz", new byte[0]);
        return putFour(putFour(maker.file(), ENTRY, first), ENTRY + 16, second);
    }

    private static byte[] tagZero() {
        FontMaker maker = FontMaker.plain();
        maker.tables.put("AAAA", new byte[] {7});
        return putFour(maker.file(), 12, 0);
    }

    private static void offsets() {
        sentence("offset a multiple of 4");
        byte[] file = withTables(1);
        for (int offset = 0; offset <= 12; offset++) {
            judged("no bytes at " + offset, putFour(file, ENTRY + 8, offset),
                    offset % 4 == 0 ? GOOD : DIRECTORY);
        }
    }

    /** A table of zeros led to the file's end and beyond; its sum stays right. */
    private static void tablesInTheFile() {
        sentence("the table in the file");
        FontMaker maker = FontMaker.plain();
        maker.tables.put("zzzz", new byte[8]);
        byte[] file = maker.file();
        judged("8 bytes up to the end", file, GOOD);
        judged("7 bytes up to one before the end", putFour(file, ENTRY + 12, 7), GOOD);
        judged("9 bytes, one behind the end", putFour(file, ENTRY + 12, 9), DIRECTORY);
        judged("the file a byte shorter", cut(file, file.length - 1), DIRECTORY);
        judged("the file a byte longer", cut(file, file.length + 1), GOOD);
        judged("no byte at the end", placed(file, file.length, 0), GOOD);
        judged("a byte at the end", placed(file, file.length, 1), DIRECTORY);
        judged("4 bytes before the end", placed(file, file.length - 4, 4), GOOD);
        judged("5 bytes before the end", placed(file, file.length - 4, 5), DIRECTORY);
        judged("no byte behind the end", placed(file, file.length + 4, 0), DIRECTORY);
        judged("no byte at 2^31", placed(file, 1L << 31, 0), DIRECTORY);
        judged("no byte at 2^32 - 4", placed(file, (1L << 32) - 4, 0), DIRECTORY);
        judged("4 bytes at 2^32 - 4", placed(file, (1L << 32) - 4, 4), DIRECTORY);
        judged("8 bytes at 2^32 - 4", placed(file, (1L << 32) - 4, 8), DIRECTORY);
        judged("2^32 - 1 bytes", putFour(file, ENTRY + 12, (1L << 32) - 1), DIRECTORY);
        judged("2^31 bytes", putFour(file, ENTRY + 12, 1L << 31), DIRECTORY);
        judged("so many that the sum wraps to 0", putFour(file, ENTRY + 12,
                (1L << 32) - (file.length - 8)), DIRECTORY);
    }

    private static byte[] placed(byte[] file, long offset, long length) {
        return putFour(putFour(file, ENTRY + 8, offset), ENTRY + 12, length);
    }

    private static void sums() {
        sentence("sum: of its 4-byte numbers (wrapping), with zeros behind its end");
        byte[] good = FontMaker.plain().file();
        for (int t = 0; t < 7; t++) {
            int place = 12 + 16 * t + 4;
            long sum = (good[place] & 255L) << 24 | (good[place + 1] & 255) << 16
                    | (good[place + 2] & 255) << 8 | good[place + 3] & 255;
            judged("sum " + t + " one less", putFour(good, place, sum - 1), DIRECTORY);
            judged("sum " + t + " one more", putFour(good, place, sum + 1), DIRECTORY);
            judged("sum " + t + " with another highest byte", putFour(good, place, sum ^ 1L << 31),
                    DIRECTORY);
        }
        dueSum("no bytes", 0);
        dueSum("1 byte", 0x01000000L, 1);
        dueSum("2 bytes", 0x01020000L, 1, 2);
        dueSum("3 bytes", 0x01020300L, 1, 2, 3);
        dueSum("4 bytes", 0x01020304L, 1, 2, 3, 4);
        dueSum("5 bytes", 0x06020304L, 1, 2, 3, 4, 5);
        dueSum("up to 2^32 - 1", 0xFFFFFFFFL, 255, 255, 255, 254, 0, 0, 0, 1);
        dueSum("2^32 wraps to 0", 0, 255, 255, 255, 255, 0, 0, 0, 1);
        dueSum("2^32 + 1 wraps to 1", 1, 255, 255, 255, 255, 0, 0, 0, 2);
        dueSum("2^31 twice wraps to 0", 0, 128, 0, 0, 0, 128, 0, 0, 0);
        dueSum("bytes 8 to 11 count, as it is not head", 9, 0, 0, 0, 0, 0, 0, 0, 0, 0, 0, 0, 9);
    }

    /** A table that means nothing, with this sum, then with another; FontMaker pads with ones. */
    private static void dueSum(String what, long sum, int... table) {
        FontMaker maker = FontMaker.plain();
        maker.tables.put("zzzz", bytes().one(table).done());
        byte[] file = maker.file();
        judged("zzzz: " + what, putFour(file, ENTRY + 4, sum), GOOD);
        judged("zzzz: " + what + ", the sum one less", putFour(file, ENTRY + 4, sum - 1), DIRECTORY);
        judged("zzzz: " + what + ", the sum one more", putFour(file, ENTRY + 4, sum + 1), DIRECTORY);
    }

    private static void sumOfHead() {
        sentence("and for head with zeros for its bytes 8 to 11");
        byte[] good = FontMaker.plain().file();
        int head = (good[12 + 32 + 10] & 255) << 8 | good[12 + 32 + 11] & 255;
        for (int i = 0; i < 54; i++) {
            boolean counts = i < 8 || i > 11;
            judged("another byte " + i + " of head",
                    putOne(good, head + i, good[head + i] + 1), counts ? DIRECTORY : GOOD);
        }
        int hhea = (good[12 + 48 + 10] & 255) << 8 | good[12 + 48 + 11] & 255;
        judged("another byte 11 of hhea", putOne(good, hhea + 11, 1), DIRECTORY);
        byte[] shortHead = bytes().zeros(9).one(5).done();
        judgedWith("head", shortHead, "10 bytes, of which 8 and 9 do not count", HEAD);
    }

    private static void tablesThatMustBe() {
        sentence("cmap, glyf, head, hhea, hmtx, loca and maxp are there");
        for (String tag : new String[] {"cmap", "glyf", "head", "hhea", "hmtx", "loca", "maxp"}) {
            FontMaker maker = FontMaker.plain();
            maker.missing.add(tag);
            judged("without " + tag, maker, DIRECTORY);
            maker.tables.put(tag.substring(0, 3) + "~", new byte[60]);
            judged("another instead of " + tag, maker, DIRECTORY);
        }
        FontMaker kerned = FontMaker.plain();
        kerned.withKern = true;
        judged("with kern", kerned, GOOD);
        kerned.missing.add("maxp");
        judged("with kern, without maxp", kerned, DIRECTORY);
    }

    private static void bytesNotToldOf() {
        sentence("Bytes that are not told of mean nothing, here and below.");
        byte[] good = FontMaker.plain().file();
        judged("bytes 6 to 11 of the directory", putFour(put(good, 6, 65535), 8, 0xFFFFFFFFL), GOOD);
        byte[] head = FontMaker.plain().head();
        byte[] otherHead = filled(head, 0, 12, 16, 18, 20, 50, 52, 54);
        judgedWith("head", otherHead, "all else", GOOD);
        judgedWith("maxp", filled(FontMaker.plain().maxp(), 0, 4), "all else", GOOD);
        judgedWith("hhea", filled(FontMaker.plain().hhea(), 0, 4, 10, 34), "all else", GOOD);
        byte[] cmap = FontMaker.cmap(FontMaker.plain().codes());
        judgedWith("cmap", filled(cmap, 0, 2, 16, 18, 20, 26, 30, 32), "all else", GOOD);
        FontMaker maker = FontMaker.plain();
        maker.glyphs.set(1, filled(maker.glyphs.get(1), 2, 10));
        judged("glyf: all else", maker, GOOD);
        FontMaker kerned = FontMaker.plain();
        kerned.pairs.add(new int[] {0, 1, 5});
        kerned.tables.put("kern", filled(kerned.kern(), 4, 6, 12, 18));
        judged("kern: all else", kerned, GOOD);
    }

    /** With ones for all bits from the first place of each pair up to the second. */
    private static byte[] filled(byte[] table, int... places) {
        byte[] out = table.clone();
        for (int i = 0; i < places.length; i += 2) {
            java.util.Arrays.fill(out, places[i], places[i + 1], (byte) 255);
        }
        return out;
    }

    private static void head() {
        byte[] head = FontMaker.plain().head();
        sentence("head: 54 bytes or more");
        judgedWith("head", new byte[0], "no bytes", HEAD);
        judgedWith("head", cut(head, 53), "53 bytes", HEAD);
        judgedWith("head", head, "54 bytes", GOOD);
        judgedWith("head", cut(head, 55), "55 bytes", GOOD);
        sentence("4 bytes at 12: 1594834165");
        for (long other : new long[] {1594834164, 1594834166, 1594834165 ^ 1L << 31, 0}) {
            judgedWith("head", putFour(head, 12, other), other + " at 12", HEAD);
        }
        sentence("2 at 18: UNITS, 16 to 16384");
        int[][] units = {{0, HEAD}, {15, HEAD}, {16, GOOD}, {17, GOOD}, {16383, GOOD}, {16384, GOOD},
            {16385, HEAD}, {32768, HEAD}, {65535, HEAD}};
        for (int[] u : units) {
            judged("UNITS " + u[0], withUnits(u[0]), u[1]);
        }
        due("UNITS", loaded(withUnits(16)).metric(0), 16);
        due("UNITS", loaded(withUnits(16384)).metric(0), 16384);
        sentence("2 at 50: 0 or 1, the FORM of loca");
        FontMaker longForm = FontMaker.plain();
        longForm.form = 1;
        judged("FORM 0", FontMaker.plain(), GOOD);
        judged("FORM 1", longForm, GOOD);
        for (int form : new int[] {2, 256, 257, 32768, 65535}) {
            judgedWith("head", put(head, 50, form), "FORM " + form, HEAD);
        }
        judgedWith("head", put(head, 50, 1), "FORM 1 with a loca of FORM 0", LOCA);
    }

    /** A font whose other numbers are small enough for any UNITS. */
    private static FontMaker withUnits(int units) {
        FontMaker maker = FontMaker.plain();
        maker.units = units;
        maker.ascent = 0;
        maker.descent = 0;
        maker.gap = 0;
        maker.advances.set(0, 0);
        maker.advances.set(1, 0);
        return maker;
    }

    private static void maxp() {
        byte[] maxp = FontMaker.plain().maxp();
        sentence("maxp: 6 or more");
        judgedWith("maxp", new byte[0], "no bytes", MAXP);
        judgedWith("maxp", cut(maxp, 5), "5 bytes", MAXP);
        judgedWith("maxp", maxp, "6 bytes", GOOD);
        judgedWith("maxp", cut(maxp, 7), "7 bytes", GOOD);
        sentence("2 at 4: GLYPHS, 1 to 64");
        int[][] counts = {{0, MAXP}, {1, GOOD}, {2, GOOD}, {63, GOOD}, {64, GOOD}, {65, MAXP}};
        for (int[] c : counts) {
            judged(c[0] + " glyphs", manyGlyphs(c[0]), c[1]);
        }
        due("GLYPHS", loaded(manyGlyphs(1)).metric(1), 1);
        due("GLYPHS", loaded(manyGlyphs(64)).metric(1), 64);
        for (int n : new int[] {256 + 2, 32768, 65535}) {
            judgedWith("maxp", put(maxp, 4, n), n + " glyphs", MAXP);
        }
    }

    private static FontMaker manyGlyphs(int n) {
        FontMaker maker = new FontMaker();
        maker.segments.add(new int[] {65535, 65535, 1, 0});
        while (maker.glyphs.size() < n) {
            maker.add(new byte[0], maker.glyphs.size());
        }
        return maker;
    }

    private static void hhea() {
        byte[] hhea = FontMaker.plain().hhea();
        sentence("hhea: 36 or more");
        judgedWith("hhea", new byte[0], "no bytes", HHEA);
        judgedWith("hhea", cut(hhea, 35), "35 bytes", HHEA);
        judgedWith("hhea", hhea, "36 bytes", GOOD);
        judgedWith("hhea", cut(hhea, 37), "37 bytes", GOOD);
        sentence("2 each at 4, 6, 8 (signed): ASCENT, DESCENT, GAP, each -8 UNITS to 8 UNITS");
        for (int place = 4; place <= 8; place += 2) {
            for (int sign = -1; sign <= 1; sign += 2) {
                for (int v = 8191; v <= 8193; v++) {
                    judgedWith("hhea", put(hhea, place, sign * v), sign * v + " at " + place,
                            v > 8192 ? HHEA : GOOD);
                }
            }
        }
        sentence("2 at 34: METRICS, 1 to GLYPHS");
        FontMaker maker = manyGlyphs(3);
        int[][] counts = {{0, HHEA}, {1, GOOD}, {2, GOOD}, {3, GOOD}, {4, HHEA}, {256 + 2, HHEA},
            {65535, HHEA}};
        maker.tables.put("hmtx", new byte[20]);
        for (int[] c : counts) {
            maker.metrics = c[0];
            judged(c[0] + " metrics of 3 glyphs", maker, c[1]);
        }
    }

    private static void hheaOfGreatUnits() {
        sentence("each -8 UNITS to 8 UNITS");
        FontMaker maker = withUnits(4096);
        maker.ascent = 32767;
        maker.descent = -32768;
        maker.gap = -32768;
        judged("8 UNITS are 32768", maker, GOOD);
        GlyphPage page = loaded(maker);
        due("ASCENT", page.metric(2), 32767);
        due("DESCENT", page.metric(3), -32768);
        due("GAP", page.metric(4), -32768);
        maker.units = 4095;
        judged("8 UNITS are 32760", maker, HHEA);
        maker.ascent = 32760;
        maker.descent = -32760;
        maker.gap = -32760;
        judged("32760", maker, GOOD);
        maker.gap = -32761;
        judged("-32761", maker, HHEA);
    }

    private static void hmtxLength() {
        sentence("hmtx: 4 * METRICS + 2 * (GLYPHS - METRICS) bytes or more");
        for (int metrics = 1; metrics <= 3; metrics++) {
            int due = 6 + 2 * metrics;
            for (int n = due - 2; n <= due + 2; n++) {
                FontMaker maker = manyGlyphs(3);
                maker.metrics = metrics;
                maker.tables.put("hmtx", new byte[n]);
                judged(n + " bytes for " + metrics + " metrics of 3 glyphs", maker,
                        n < due ? HMTX : GOOD);
            }
        }
        judgedWith("hmtx", new byte[0], "no bytes", HMTX);
    }

    private static void advances() {
        sentence("2 at 4 * g: the ADVANCE of glyph g ... none above 8 UNITS");
        byte[] two = FontMaker.plain().hmtx();
        for (int g = 0; g < 2; g++) {
            judgedWith("hmtx", put(two, 4 * g, 8191), "8191 for " + g, GOOD);
            judgedWith("hmtx", put(two, 4 * g, 8192), "8192 for " + g, GOOD);
            judgedWith("hmtx", put(two, 4 * g, 8193), "8193 for " + g, HMTX);
            judgedWith("hmtx", put(two, 4 * g, 32768), "32768 for " + g, HMTX);
            judgedWith("hmtx", put(two, 4 * g, 65535), "65535 for " + g, HMTX);
            judgedWith("hmtx", put(two, 4 * g + 2, 65535), "what is no advance, " + g, GOOD);
        }
        sentence("for g from METRICS on that of the one before METRICS");
        FontMaker maker = manyGlyphs(5);
        maker.metrics = 3;
        maker.tables.put("hmtx", bytes().two(10, 65535, 20, 65535, 30, 65535, 65535, 65535).done());
        GlyphPage page = loaded(maker);
        int[] want = {10, 20, 30, 30, 30, NONE};
        for (int g = 0; g < want.length; g++) {
            due("advance of " + g, page.look(g, 0), want[g]);
        }
        maker.tables.put("hmtx", bytes().two(10, 0, 20, 0, 8193, 0, 0, 0).done());
        judged("the last advance above 8 UNITS", maker, HMTX);
        maker.metrics = 2;
        judged("no advance any more", maker, GOOD);
        maker.metrics = 1;
        maker.tables.put("hmtx", bytes().two(8192, 0, 0, 0, 0, 0).done());
        page = loaded(maker);
        due("advance of 0", page.look(0, 0), 8192);
        due("advance of 1", page.look(1, 0), 8192);
        due("advance of 4", page.look(4, 0), 8192);
    }

    private static void greatAdvances() {
        sentence("Numbers ... without a sign but where told (signed)");
        FontMaker maker = withUnits(8192);
        maker.advances.set(0, 32768);
        maker.advances.set(1, 65535);
        GlyphPage page = loaded(maker);
        due("advance of 0", page.look(0, 0), 32768);
        due("advance of 1", page.look(1, 0), 65535);
        maker.units = 8191;
        judged("65535 with 8 UNITS of 65528", maker, HMTX);
        maker.advances.set(1, 65528);
        judged("65528", maker, GOOD);
        maker.advances.set(1, 65529);
        judged("65529", maker, HMTX);
    }

    private static void locaLength() {
        sentence("loca: GLYPHS + 1 numbers, of 2 bytes, times 2 (FORM 0), or of 4 (FORM 1)");
        for (int glyphs : new int[] {1, 2, 64}) {
            for (int form = 0; form < 2; form++) {
                FontMaker maker = manyGlyphs(glyphs);
                maker.form = form;
                maker.tables.put("glyf", new byte[1200]);
                int due = (glyphs + 1) * (form == 0 ? 2 : 4);
                for (int n : new int[] {0, due - (form == 0 ? 2 : 4), due - 1, due, due + 1}) {
                    maker.tables.put("loca", new byte[n]);
                    judged(n + " bytes of FORM " + form + " for " + glyphs + " glyphs", maker,
                            n < due ? LOCA : GOOD);
                }
            }
        }
        FontMaker twice = FontMaker.plain();
        int glyf = twice.glyf().length;
        twice.tables.put("loca", bytes().two(0, 0, glyf / 2).done());
        due("times 2 in FORM 0: points", loaded(twice).look(1, 2), 4);
        twice.form = 1;
        twice.tables.put("loca", bytes().four(0, 0, glyf).done());
        due("as told in FORM 1: points", loaded(twice).look(1, 2), 4);
    }

    private static void judgedLoca(int form, String what, int fault, long... numbers) {
        FontMaker maker = manyGlyphs(numbers.length - 1);
        maker.form = form;
        maker.tables.put("glyf", new byte[36]);
        FontMaker.Bytes loca = bytes();
        for (long number : numbers) {
            if (form == 0) {
                loca.two((int) number);
            } else {
                loca.four(number);
            }
        }
        maker.tables.put("loca", loca.done());
        judged("FORM " + form + ": " + what, maker, fault);
    }

    /** Twelve zeros are a glyph of no contours. */
    private static void locaOrder() {
        sentence("none below the one before");
        judgedLoca(0, "all the same", GOOD, 0, 0, 0);
        judgedLoca(0, "all the same, not 0", GOOD, 3, 3, 3);
        judgedLoca(0, "rising", GOOD, 0, 6, 12);
        judgedLoca(0, "the second below the first", LOCA, 1, 0, 6);
        judgedLoca(0, "the third below the second", LOCA, 0, 7, 6);
        judgedLoca(0, "the last below", LOCA, 0, 6, 12, 11);
        judgedLoca(1, "all the same", GOOD, 0, 0, 0);
        judgedLoca(1, "all the same, not 0", GOOD, 5, 5, 5);
        judgedLoca(1, "rising", GOOD, 1, 13, 25);
        judgedLoca(1, "the second below the first", LOCA, 1, 0, 12);
        judgedLoca(1, "the third below the second", LOCA, 0, 13, 12);
        judgedLoca(1, "2^31, then 12", LOCA, 0, 1L << 31, 12);
        judgedLoca(1, "2^32 - 1, then 0", LOCA, 0, (1L << 32) - 1, 0);
        judgedLoca(1, "2^32 - 1 first", LOCA, (1L << 32) - 1, 0, 0);
    }

    private static void locaEnd() {
        sentence("the last at most glyf's length");
        judgedLoca(0, "34 of 36", GOOD, 17, 17);
        judgedLoca(0, "36 of 36", GOOD, 18, 18);
        judgedLoca(0, "38 of 36", LOCA, 19, 19);
        judgedLoca(0, "a glyph up to 36", GOOD, 12, 18);
        judgedLoca(0, "a glyph up to 38", LOCA, 12, 19);
        judgedLoca(0, "65536, which is 0 in two bytes", LOCA, 0, 32768);
        judgedLoca(0, "131070", LOCA, 65535, 65535);
        judgedLoca(1, "35 of 36", GOOD, 35, 35);
        judgedLoca(1, "36 of 36", GOOD, 36, 36);
        judgedLoca(1, "37 of 36", LOCA, 37, 37);
        judgedLoca(1, "a glyph up to 36", GOOD, 24, 36);
        judgedLoca(1, "a glyph up to 37", LOCA, 24, 37);
        judgedLoca(1, "65536", LOCA, 0, 65536);
        judgedLoca(1, "2^31", LOCA, 0, 1L << 31);
        judgedLoca(1, "2^32 - 1", LOCA, 0, (1L << 32) - 1);
        FontMaker odd = manyGlyphs(1);
        odd.tables.put("glyf", new byte[13]);
        odd.tables.put("loca", bytes().two(0, 6).done());
        judged("12 of 13", odd, GOOD);
        odd.tables.put("loca", bytes().two(0, 7).done());
        judged("14 of 13", odd, LOCA);
        FontMaker none = manyGlyphs(1);
        none.tables.put("glyf", new byte[0]);
        judged("a glyf without bytes", none, GOOD);
        none.tables.put("loca", bytes().two(0, 1).done());
        judged("2 of 0", none, LOCA);
    }

    private static void order() {
        sentence("A FILE is judged in this order; the first that is not so is its FAULT");
        for (int first = DIRECTORY; first <= KERN; first++) {
            judged("rule " + first + " broken", broken(first, first), first);
            for (int second = first + 1; second <= KERN; second++) {
                judged("rules " + first + " and " + second + " broken", broken(first, second), first);
            }
        }
    }

    private static byte[] broken(int first, int second) {
        FontMaker maker = FontMaker.plain();
        maker.withKern = true;
        String[] tags = {"head", "maxp", "hhea", "hmtx", "loca", "cmap", "", "kern"};
        for (int rule : new int[] {first, second}) {
            if (rule == GLYF && maker.glyphs.size() == 2) {
                maker.add(FontMaker.composite(77, 0, 0), 0);
            } else if (rule > DIRECTORY && rule != GLYF) {
                maker.tables.put(tags[rule - HEAD], new byte[3]);
            }
        }
        return first == DIRECTORY ? put(maker.file(), 0, 2) : maker.file();
    }

    private static void whatStays() {
        sentence("or its FAULT: then the font stays. (SIZE, page and lines stay in any case.)");
        for (int rule = 0; rule <= KERN; rule++) {
            GlyphPage page = loaded(FontMaker.plain(), 16, 16);
            page.size(20);
            FontMaker.feed(page, "aa\na");
            due("text", page.text(0, 640, 20000), 2);
            int inked = page.inked();
            FontMaker other = FontMaker.plain();
            other.units = 2048;
            int fault = FontMaker.load(page, rule == 0 ? other.file() : broken(rule, rule));
            due("font", fault, rule);
            due("the tape is empty after " + rule, page.end(1), REFUSED);
            due("UNITS after " + rule, page.metric(0), rule == 0 ? 2048 : 1024);
            FontMaker.feed(page, "the tape goes on, and the font has nothing of it".repeat(20));
            due("a glyph after " + rule, page.glyph(97), 1);
            due("its points after " + rule, page.look(1, 2), 4);
            due("a point after " + rule, page.point(1, 2, 0), 640);
            due("SIZE after " + rule, page.size(16), 20);
            due("the page after " + rule, page.inked(), inked);
            due("the lines after " + rule, page.line(1, 1), 4);
        }
        sentence("calls that read it empty it");
        GlyphPage page = new GlyphPage(8, 8);
        due("font of no bytes", page.font(), DIRECTORY);
        due("no font", page.metric(0), NONE);
        due("the tape is empty", page.end(1), REFUSED);
        due("feed behind it", page.feed(1, 2, 3, 4, 5), 20);
    }
}
