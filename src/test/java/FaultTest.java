import java.util.Arrays;
import java.util.Map;
import java.util.TreeMap;

/** Promise 4: each rule that a file is judged by, on both sides of each of its edges. */
public final class FaultTest {
    private static final Check CHECK = new Check();
    private static final int DIRECTORY = 1, HEAD = 2, MAXP = 3, HHEA = 4, HMTX = 5, LOCA = 6,
            CMAP = 7, GLYF = 8, KERN = 9;

    public static void main(String[] args) {
        directory();
        sums();
        head();
        maxp();
        hhea();
        hmtx();
        loca();
        cmap();
        codes();
        simpleGlyphs();
        flags();
        coordinates();
        composites();
        depths();
        limits();
        kern();
        order();
        whatStays();
        CHECK.finish();
    }

    private static void due(String what, byte[] file, int want) {
        CHECK.due(what, FontMaker.load(new GlyphPage(8, 8), file), want);
    }

    private static void due(String what, FontMaker maker, int want) {
        due(what, maker.file(), want);
    }

    private static void dueWith(String tag, byte[] table, String what, int want) {
        FontMaker maker = FontMaker.plain();
        maker.tables.put(tag, table);
        due(tag + ": " + what, maker, want);
    }

    private static byte[] put(byte[] bytes, int place, int two) {
        byte[] out = bytes.clone();
        out[place] = (byte) (two >> 8);
        out[place + 1] = (byte) two;
        return out;
    }

    private static byte[] cut(byte[] bytes, int length) {
        return Arrays.copyOf(bytes, length);
    }

    private static void directory() {
        byte[] good = FontMaker.plain().file();
        due("a plain file", good, 0);
        due("no bytes", new byte[0], DIRECTORY);
        due("5 bytes", cut(good, 5), DIRECTORY);
        due("12 bytes", cut(good, 12), DIRECTORY);
        due("the directory alone", cut(good, 12 + 7 * 16), DIRECTORY);
        due("cut behind the last table's bytes", cut(good, good.length - 2), 0);
        due("cut in the last table", cut(good, good.length - 3), DIRECTORY);
        due("version 131072", put(good, 0, 2), DIRECTORY);
        due("version 65537", put(good, 2, 1), DIRECTORY);
        due("no table", put(good, 4, 0), DIRECTORY);
        due("6 of 7 tables", put(good, 4, 6), DIRECTORY);
        due("bytes 6 to 11 mean nothing", put(put(good, 6, 9), 10, 65535), 0);
        due("an offset not a multiple of 4", put(good, 12 + 10, 12 + 7 * 16 + 2), DIRECTORY);
        due("an offset far out", put(good, 12 + 8, 32768), DIRECTORY);
        due("a length far out", put(good, 12 + 12, 65535), DIRECTORY);
        due("a tag twice", twice(), DIRECTORY);
        for (String tag : new String[] {"cmap", "glyf", "head", "hhea", "hmtx", "loca", "maxp"}) {
            FontMaker maker = FontMaker.plain();
            maker.missing.add(tag);
            due("without " + tag, maker, DIRECTORY);
        }
        due("16 tables", withTables(9), 0);
        due("17 tables", withTables(10), DIRECTORY);
        due("tags that do not rise", fallingTags(), DIRECTORY);
        due("tags above 2^31 rise too", highTags(), 0);
        atTheEnd();
    }

    /** A table of zeros whose entry is led to the file's end and beyond; its sum stays right. */
    private static void atTheEnd() {
        FontMaker maker = FontMaker.plain();
        maker.tables.put("zzzz", new byte[8]);
        byte[] file = maker.file();
        int entry = 12 + 7 * 16;
        due("a table of zeros", file, 0);
        due("7 of its bytes", put(cut(file, file.length - 1), entry + 14, 7), 0);
        due("its last byte behind the file", cut(file, file.length - 1), DIRECTORY);
        due("no byte at the file's end", put(put(file, entry + 10, file.length), entry + 14, 0), 0);
        due("a byte at the file's end", put(put(file, entry + 10, file.length), entry + 14, 1),
                DIRECTORY);
        due("no byte behind the file's end",
                put(put(file, entry + 10, file.length + 4), entry + 14, 0), DIRECTORY);
        due("2^32 - 4 bytes", put(put(file, entry + 12, 65535), entry + 14, 65532), DIRECTORY);
        due("an offset of 0", put(put(file, entry + 10, 0), entry + 14, 0), 0);
    }

    /** The entry of maxp stands again behind itself. */
    private static byte[] twice() {
        byte[] out = withTables(1);
        System.arraycopy(out, 12 + 6 * 16, out, 12 + 7 * 16, 16);
        return out;
    }

    private static byte[] withTables(int more) {
        FontMaker maker = FontMaker.plain();
        for (int i = 0; i < more; i++) {
            maker.tables.put("zz" + (char) ('a' + i) + "z", new byte[i]);
        }
        return maker.file();
    }

    private static byte[] fallingTags() {
        byte[] good = FontMaker.plain().file();
        byte[] out = good.clone();
        System.arraycopy(good, 12, out, 28, 16);
        System.arraycopy(good, 28, out, 12, 16);
        return out;
    }

    private static byte[] highTags() {
        FontMaker maker = FontMaker.plain();
        maker.tables.put("\u00e0abc", new byte[] {1, 2, 3});
        return maker.file();
    }

    private static void sums() {
        byte[] good = FontMaker.plain().file();
        for (int t = 0; t < 7; t++) {
            due("a wrong sum " + t, put(good, 12 + 16 * t + 6, 4711), DIRECTORY);
        }
        int head = (good[12 + 32 + 10] & 255) << 8 | good[12 + 32 + 11] & 255;
        due("bytes 8 to 11 of head are no part of its sum", put(put(good, head + 8, 1), head + 10, 2), 0);
        due("byte 7 of head is", put(good, head + 6, 1), DIRECTORY);
        due("byte 12 of head is", put(good, head + 12, 1), DIRECTORY);
        FontMaker odd = FontMaker.plain();
        odd.tables.put("zzzz", new byte[] {-1, -1, -1, -1, -1, -1, -1});
        due("a sum that wraps, of 7 bytes", odd, 0);
        dueWith("head", new byte[10], "10 bytes, its sum without the last two", HEAD);
        byte[] shortHead = new byte[10];
        shortHead[9] = 5;
        dueWith("head", shortHead, "10 bytes, the last two passed over in the sum", HEAD);
        FontMaker unknown = FontMaker.plain();
        unknown.tables.put("zzzz", new byte[] {1, 2, 3, 4});
        byte[] file = unknown.file();
        due("a table that means nothing", file, 0);
        due("and its wrong sum", put(file, 12 + 7 * 16 + 6, 9), DIRECTORY);
    }

    private static void head() {
        byte[] head = FontMaker.plain().head();
        dueWith("head", cut(head, 53), "53 bytes", HEAD);
        dueWith("head", cut(head, 58), "58 bytes", 0);
        dueWith("head", put(head, 14, 1), "another number at 12", HEAD);
        int[][] units = {{15, HEAD}, {16384, 0}, {16385, HEAD}, {65535, HEAD}, {0, HEAD}};
        for (int[] u : units) {
            dueWith("head", put(head, 18, u[0]), "UNITS " + u[0], u[1]);
        }
        FontMaker small = FontMaker.plain();
        small.units = 16;
        small.ascent = 128;
        small.descent = -128;
        small.gap = 0;
        small.advances.set(0, 128);
        small.advances.set(1, 0);
        due("UNITS 16", small, 0);
        dueWith("head", put(head, 50, 2), "FORM 2", HEAD);
        dueWith("head", put(head, 50, 1), "FORM 1 with a loca of FORM 0", LOCA);
        FontMaker longForm = FontMaker.plain();
        longForm.form = 1;
        due("FORM 1", longForm, 0);
    }

    private static void maxp() {
        byte[] maxp = FontMaker.plain().maxp();
        dueWith("maxp", cut(maxp, 5), "5 bytes", MAXP);
        dueWith("maxp", cut(maxp, 32), "32 bytes", 0);
        dueWith("maxp", put(maxp, 0, 77), "another version", 0);
        dueWith("maxp", put(maxp, 4, 0), "no glyph", MAXP);
        dueWith("maxp", put(maxp, 4, 65), "65 glyphs", MAXP);
        due("64 glyphs", manyGlyphs(64), 0);
        due("65 glyphs, all there", manyGlyphs(65), MAXP);
        FontMaker one = new FontMaker();
        one.add(new byte[0], 0);
        one.segments.add(new int[] {65535, 65535, 1, 0});
        due("1 glyph", one, 0);
    }

    private static FontMaker manyGlyphs(int n) {
        FontMaker maker = FontMaker.plain();
        while (maker.glyphs.size() < n) {
            maker.add(new byte[0], maker.glyphs.size());
        }
        return maker;
    }

    private static void hhea() {
        byte[] hhea = FontMaker.plain().hhea();
        dueWith("hhea", cut(hhea, 35), "35 bytes", HHEA);
        dueWith("hhea", cut(hhea, 40), "40 bytes", 0);
        for (int place = 4; place <= 8; place += 2) {
            dueWith("hhea", put(hhea, place, 8192), "8 UNITS at " + place, 0);
            dueWith("hhea", put(hhea, place, 8193), "above 8 UNITS at " + place, HHEA);
            dueWith("hhea", put(hhea, place, -8192), "-8 UNITS at " + place, 0);
            dueWith("hhea", put(hhea, place, -8193), "below -8 UNITS at " + place, HHEA);
        }
        dueWith("hhea", put(hhea, 34, 0), "no metrics", HHEA);
        dueWith("hhea", put(hhea, 34, 1), "1 of 2 metrics", 0);
        dueWith("hhea", put(hhea, 34, 3), "3 of 2 metrics", HHEA);
        dueWith("hhea", put(hhea, 10, 30000), "a number that means nothing", 0);
    }

    private static void hmtx() {
        FontMaker maker = FontMaker.plain();
        maker.metrics = 1;
        byte[] hmtx = maker.hmtx();
        CHECK.due("hmtx of 1 metric and 2 glyphs", hmtx.length, 6);
        due("1 metric", maker, 0);
        maker.tables.put("hmtx", cut(hmtx, 5));
        due("1 metric, 5 bytes", maker, HMTX);
        byte[] two = FontMaker.plain().hmtx();
        dueWith("hmtx", cut(two, 7), "7 of 8 bytes", HMTX);
        dueWith("hmtx", cut(two, 11), "11 of 8 bytes", 0);
        dueWith("hmtx", put(two, 4, 8192), "8 UNITS", 0);
        dueWith("hmtx", put(two, 4, 8193), "above 8 UNITS", HMTX);
        dueWith("hmtx", put(two, 0, 65535), "65535", HMTX);
        dueWith("hmtx", put(two, 2, 65535), "what is no advance", 0);
        FontMaker behind = FontMaker.plain();
        behind.metrics = 1;
        behind.tables.put("hmtx", FontMaker.bytes().two(5, 6, 65535).done());
        due("what is no advance behind the metrics", behind, 0);
    }

    private static void loca() {
        byte[] loca = FontMaker.plain().loca();
        int glyf = FontMaker.plain().glyf().length;
        dueWith("loca", cut(loca, 5), "5 of 6 bytes", LOCA);
        dueWith("loca", cut(loca, 9), "9 of 6 bytes", 0);
        dueWith("loca", put(loca, 4, glyf / 2 + 1), "behind glyf", LOCA);
        dueWith("loca", put(loca, 2, glyf / 2 + 1), "below the one before", LOCA);
        dueWith("loca", put(put(loca, 2, 65535), 4, 65535), "far behind glyf", LOCA);
        FontMaker later = FontMaker.plain();
        later.tables.put("glyf", FontMaker.bytes().two(1, 2).all(later.glyf()).done());
        later.tables.put("loca", FontMaker.bytes().two(2, 2, 2 + glyf / 2).done());
        due("the first does not begin at 0", later, 0);
        FontMaker empty = FontMaker.plain();
        empty.glyphs.set(1, new byte[0]);
        empty.tables.put("glyf", new byte[2000]);
        empty.tables.put("loca", new byte[6]);
        due("3 numbers for 2 empty glyphs", empty, 0);
        empty.tables.put("loca", new byte[5]);
        due("2.5 numbers for 2 empty glyphs", empty, LOCA);
        empty.tables.put("loca", new byte[4]);
        due("2 numbers for 2 empty glyphs", empty, LOCA);
        empty.form = 1;
        empty.tables.put("loca", new byte[12]);
        due("3 numbers of FORM 1", empty, 0);
        empty.tables.put("loca", new byte[11]);
        due("2.75 numbers of FORM 1", empty, LOCA);
        FontMaker longForm = FontMaker.plain();
        longForm.form = 1;
        longForm.tables.put("loca", FontMaker.bytes().four(0, 0, glyf).done());
        due("FORM 1", longForm, 0);
        longForm.tables.put("loca", FontMaker.bytes().four(0, 0, glyf + 1).done());
        due("FORM 1 behind glyf", longForm, LOCA);
        longForm.tables.put("loca", FontMaker.bytes().four(0, 0x80000000L, 0x80000000L).done());
        due("FORM 1 at 2^31", longForm, LOCA);
        longForm.tables.put("loca", FontMaker.bytes().four(0, 0xFFFFFFFFL, glyf).done());
        due("FORM 1 below the one before", longForm, LOCA);
        longForm.tables.put("loca", cut(FontMaker.bytes().four(0, 0, glyf).done(), 11));
        due("FORM 1 with 11 bytes", longForm, LOCA);
    }

    private static void cmap() {
        byte[] codes = FontMaker.plain().codes();
        byte[] cmap = FontMaker.cmap(codes);
        dueWith("cmap", cut(cmap, 3), "3 bytes", CMAP);
        dueWith("cmap", new byte[4], "4 bytes", CMAP);
        dueWith("cmap", put(cmap, 2, 0), "no entry", CMAP);
        dueWith("cmap", put(cmap, 2, 6), "entries behind its end", CMAP);
        dueWith("cmap", put(cmap, 4, 1), "1, 1", CMAP);
        dueWith("cmap", put(cmap, 6, 10), "3, 10", CMAP);
        dueWith("cmap", put(cmap, 0, 7), "another version", 0);
        dueWith("cmap", cut(cmap, cmap.length - 1), "subtable behind its end", CMAP);
        dueWith("cmap", put(cmap, 8, 32768), "subtable at 2^31", CMAP);
        dueWith("cmap", put(cmap, 10, cmap.length), "subtable at its end", CMAP);
        dueWith("cmap", put(put(cmap, 8, 65535), 10, 65535), "subtable at 2^32 - 1", CMAP);
        byte[] second = FontMaker.bytes().two(0, 3, 1, 0).four(28).two(3, 1).four(28).two(3, 1)
                .four(9999).all(codes).done();
        dueWith("cmap", second, "the first 3, 1 counts", 0);
        byte[] bad = FontMaker.bytes().two(0, 2, 3, 1).four(9999).two(3, 1).four(20).all(codes)
                .done();
        dueWith("cmap", bad, "the first 3, 1 is bad", CMAP);
        // The subtable may lie in the entries behind the one that counts.
        byte[] inEntries = FontMaker.bytes().two(0, 5, 3, 1).four(12)
                .two(4, 24, 0, 2, 0, 0, 0, 65535, 0, 65535, 1, 0).zeros(8).done();
        dueWith("cmap", inEntries, "5 entries and no more", 0);
        dueWith("cmap", cut(inEntries, 43), "a byte of the last entry is missing", CMAP);
    }

    private static void codes() {
        byte[] codes = FontMaker.plain().codes();
        dueWith("cmap", FontMaker.cmap(put(codes, 0, 6)), "format 6", CMAP);
        dueWith("cmap", FontMaker.cmap(put(codes, 2, codes.length + 1)), "longer than cmap", CMAP);
        dueWith("cmap", FontMaker.cmap(put(codes, 2, codes.length - 1)), "a byte short", CMAP);
        dueWith("cmap", FontMaker.cmap(put(codes, 6, 2)), "1 segment", 0);
        dueWith("cmap", FontMaker.cmap(put(codes, 6, 3)), "1.5 segments", CMAP);
        dueWith("cmap", FontMaker.cmap(put(codes, 6, 0)), "no segment", CMAP);
        dueWith("cmap", FontMaker.cmap(put(codes, 6, 6)), "3 segments in the room of 2", CMAP);
        dueWith("cmap", FontMaker.cmap(put(codes, 6, 65534)), "32767 segments", CMAP);
        dueWith("cmap", FontMaker.cmap(put(put(codes, 4, 9), 8, 9)), "what means nothing", 0);
        byte[] more = FontMaker.bytes().all(codes).two(1, 2, 3).done();
        dueWith("cmap", FontMaker.cmap(more), "bytes behind it", 0);
    }

    private static FontMaker with(byte[] glyph) {
        FontMaker maker = FontMaker.plain();
        maker.form = 1;
        maker.add(glyph, 100);
        return maker;
    }

    private static void dueGlyph(String what, byte[] glyph, int want) {
        due("glyf: " + what, with(glyph), want);
    }

    private static void simpleGlyphs() {
        byte[] square = FontMaker.plain().glyphs.get(1);
        dueGlyph("1 byte", new byte[1], GLYF);
        dueGlyph("9 bytes", new byte[9], GLYF);
        dueGlyph("no contour, 10 bytes: the number at 10 is missing", new byte[10], GLYF);
        dueGlyph("no contour, 11 bytes", new byte[11], GLYF);
        dueGlyph("no contour, 12 bytes", new byte[12], 0);
        dueGlyph("no contour, a byte passed over", FontMaker.bytes().zeros(10).two(1).one(9).done(), 0);
        dueGlyph("no contour, a byte missing", FontMaker.bytes().zeros(10).two(1).done(), GLYF);
        dueGlyph("a byte missing", cut(square, square.length - 1), GLYF);
        dueGlyph("a byte more", cut(square, square.length + 1), 0);
        dueGlyph("-2 contours", put(square, 0, -2), GLYF);
        dueGlyph("-32768 contours", put(square, 0, -32768), GLYF);
        dueGlyph("16 contours", FontMaker.simple(dots(16)), 0);
        dueGlyph("17 contours", FontMaker.simple(dots(17)), GLYF);
        dueGlyph("a box that means nothing", put(put(square, 2, 30000), 8, -30000), 0);
        dueGlyph("2 contours with the same last point", onePoints(0, 0), GLYF);
        dueGlyph("2 contours with falling last points", onePoints(1, 0), GLYF);
        dueGlyph("2 contours with rising last points", onePoints(0, 1), 0);
        dueGlyph("last point 127", onePoints(127), 0);
        dueGlyph("last point 128", onePoints(128), GLYF);
        dueGlyph("last point 65535", onePoints(65535), GLYF);
        byte[] skipped = FontMaker.bytes().two(1).zeros(8).two(0, 3).one(7, 7, 7).one(49).done();
        dueGlyph("3 bytes passed over", skipped, 0);
        dueGlyph("4 bytes passed over, the flag among them", put(skipped, 12, 4), GLYF);
        dueGlyph("65535 bytes passed over", put(skipped, 12, 65535), GLYF);
    }

    private static int[][] dots(int n) {
        int[][] out = new int[n][];
        for (int i = 0; i < n; i++) {
            out[i] = new int[] {10 * i, 5, 1};
        }
        return out;
    }

    /** Contours with these last points; flags for 512 points of which none has bytes. */
    private static byte[] onePoints(int... lasts) {
        FontMaker.Bytes out = FontMaker.bytes().two(lasts.length).zeros(8).two(lasts).two(0);
        int points = lasts[lasts.length - 1] + 1;
        for (int i = 0; i < points && i < 512; i++) {
            out.one(49);
        }
        return out.done();
    }

    private static byte[] threePoints(int... rest) {
        return FontMaker.bytes().two(1).zeros(8).two(2, 0).one(rest).done();
    }

    private static void flags() {
        dueGlyph("a flag 3 times", threePoints(49 + 8, 2), 0);
        dueGlyph("a flag 4 times: what is behind the points is dropped", threePoints(57, 3), 0);
        dueGlyph("a flag, then 2 times", threePoints(49, 57, 1), 0);
        dueGlyph("a flag 2 times, then no more", threePoints(57, 1), GLYF);
        dueGlyph("how often is missing", threePoints(49, 49, 57), GLYF);
        dueGlyph("0 times more", threePoints(49, 49, 57, 0), 0);
        dueGlyph("x of one byte", threePoints(51, 51, 49, 1, 2), 0);
        dueGlyph("x of one byte is missing", threePoints(51, 51, 49, 1), GLYF);
        dueGlyph("x of two bytes", threePoints(33, 49, 49, 1, 2), 0);
        dueGlyph("x of two bytes, one missing", threePoints(33, 49, 49, 1), GLYF);
        dueGlyph("y of one byte", threePoints(53, 49, 49, 1), 0);
        dueGlyph("y of one byte is missing", threePoints(53, 49, 49), GLYF);
        dueGlyph("y of two bytes", threePoints(17, 49, 49, 1, 2), 0);
        dueGlyph("y of two bytes, one missing", threePoints(17, 49, 49, 1), GLYF);
        dueGlyph("flags 64 and 128 mean nothing", threePoints(49 + 64, 49 + 128, 49 + 192), 0);
    }

    private static void coordinates() {
        for (int v : new int[] {32767, -32768}) {
            int step = v > 0 ? 1 : -1;
            dueGlyph("x " + v, FontMaker.simple(new int[][] {{v, 0, 1}}), 0);
            dueGlyph("y " + v, FontMaker.simple(new int[][] {{0, v, 1}}), 0);
            dueGlyph("x beyond " + v, FontMaker.simple(new int[][] {{v, 0, 1, v + step, 0, 1}}), GLYF);
            dueGlyph("y beyond " + v, FontMaker.simple(new int[][] {{0, v, 1, 0, v + step, 1}}), GLYF);
            FontMaker maker = with(FontMaker.simple(new int[][] {{v, v, 1}}));
            maker.add(FontMaker.composite(2, 0, 0), 0);
            due("a part at " + v, maker, 0);
            maker.add(FontMaker.composite(2, step, 0), 0);
            due("a part beyond x " + v, maker, GLYF);
            maker.glyphs.set(4, FontMaker.composite(2, 0, step));
            due("a part beyond y " + v, maker, GLYF);
            maker.glyphs.set(4, FontMaker.composite(2, -step, -step, 2, -v / 2, -v / 2));
            due("parts within " + v, maker, 0);
        }
        FontMaker scaled = with(FontMaker.simple(new int[][] {{20000, 0, 1}}));
        scaled.add(part(8 + 3, 2, 0, 0, 32767), 0);
        due("a part twice as wide", scaled, GLYF);
        scaled.glyphs.set(3, part(8 + 3, 2, -20000, 0, 32767));
        due("a part twice as wide, moved back", scaled, 0);
    }

    private static byte[] part(int flags, int... rest) {
        return FontMaker.bytes().two(-1).zeros(8).two(flags).two(rest).done();
    }

    private static void composites() {
        dueGlyph("one part", part(3, 1, 5, 5), 0);
        dueGlyph("one part, a byte missing", cut(part(3, 1, 5, 5), 17), GLYF);
        dueGlyph("one part, bytes more", cut(part(3, 1, 5, 5), 25), 0);
        dueGlyph("no part", cut(part(0), 10), GLYF);
        dueGlyph("offsets of one byte", part(2, 1, 0x0505), 0);
        dueGlyph("offsets of one byte, one missing", cut(part(2, 1, 0x0505), 15), GLYF);
        dueGlyph("flags without 2", part(1, 1, 0, 0), GLYF);
        dueGlyph("a glyph that is none", part(3, 3, 0, 0), GLYF);
        dueGlyph("a glyph 65535", part(3, 65535, 0, 0), GLYF);
        FontMaker most = manyGlyphs(64);
        most.glyphs.set(2, part(3, 63, 0, 0));
        due("the last of 64 glyphs", most, 0);
        most.glyphs.set(2, part(3, 64, 0, 0));
        due("the one behind the last of 64 glyphs", most, GLYF);
        dueGlyph("itself", part(3, 2, 0, 0), GLYF);
        dueGlyph("an empty part", part(3, 0, 9, 9), 0);
        dueGlyph("more, but none there", part(35, 1, 0, 0), GLYF);
        dueGlyph("one scale", part(11, 1, 0, 0, 8192), 0);
        dueGlyph("one scale, missing", part(11, 1, 0, 0), GLYF);
        dueGlyph("two scales", part(67, 1, 0, 0, 8192, 1), 0);
        dueGlyph("two scales, one missing", part(67, 1, 0, 0, 8192), GLYF);
        dueGlyph("four scales", part(131, 1, 0, 0, 1, 2, 3, 4), 0);
        dueGlyph("four scales, one missing", part(131, 1, 0, 0, 1, 2, 3), GLYF);
        dueGlyph("8 before 64 and 128", part(8 + 64 + 128 + 3, 1, 0, 0, 1), 0);
        dueGlyph("64 before 128", part(64 + 128 + 3, 1, 0, 0, 1, 2), 0);
        dueGlyph("other flags mean nothing", part(0xFF14 + 3, 1, 0, 0), 0);
        FontMaker circle = with(part(3, 3, 0, 0));
        circle.add(part(3, 2, 0, 0), 0);
        due("two that are parts of each other", circle, GLYF);
    }

    private static FontMaker chain(int depth, byte[] inmost) {
        FontMaker maker = with(inmost);
        for (int i = 0; i < depth; i++) {
            maker.add(FontMaker.composite(2 + i, 1, 1), 0);
        }
        return maker;
    }

    private static void depths() {
        byte[] square = FontMaker.plain().glyphs.get(1);
        due("parts 4 deep", chain(4, square), 0);
        due("parts 5 deep", chain(5, square), GLYF);
        due("empty parts 4 deep", chain(4, new byte[0]), 0);
        due("empty parts 5 deep", chain(5, new byte[0]), GLYF);
        FontMaker first = new FontMaker();
        first.form = 1;
        for (int i = 1; i <= 4; i++) {
            first.add(FontMaker.composite(i, 0, 0), 0);
        }
        first.add(square, 0);
        first.segments.add(new int[] {65535, 65535, 1, 0});
        due("parts 4 deep, the outmost first", first, 0);
        first.add(square, 0);
        first.glyphs.set(4, FontMaker.composite(5, 0, 0));
        due("parts 5 deep, the outmost first", first, GLYF);
    }

    private static int[] parts(int n, int glyph) {
        int[] out = new int[3 * n];
        for (int i = 0; i < n; i++) {
            out[3 * i] = glyph;
        }
        return out;
    }

    private static void limits() {
        FontMaker maker = with(onePoints(127));
        maker.add(FontMaker.composite(2, 0, 0, 2, 0, 0), 0);
        due("256 points", maker, 0);
        maker.add(FontMaker.simple(dots(1)), 0);
        maker.add(FontMaker.composite(2, 0, 0, 2, 0, 0, 4, 0, 0), 0);
        due("257 points", maker, GLYF);
        maker.glyphs.set(5, FontMaker.composite(2, 0, 0, 4, 0, 0, 2, 0, 0));
        due("257 points, many at last", maker, GLYF);
        FontMaker contours = with(FontMaker.simple(dots(16)));
        contours.add(FontMaker.composite(2, 0, 0, 2, 0, 0), 0);
        due("32 contours", contours, 0);
        contours.add(FontMaker.simple(dots(1)), 0);
        contours.add(FontMaker.composite(3, 0, 0, 4, 0, 0), 0);
        due("33 contours", contours, GLYF);
        due("40 parts", with(FontMaker.composite(parts(40, 0))), 0);
        due("41 parts", with(FontMaker.composite(parts(41, 0))), GLYF);
        FontMaker nested = with(FontMaker.composite(parts(19, 0)));
        nested.add(FontMaker.composite(2, 0, 0, 2, 0, 0), 0);
        due("2 parts of 19 parts", nested, 0);
        nested.add(FontMaker.composite(2, 0, 0, 2, 0, 0, 0, 0, 0), 0);
        due("2 parts of 19 parts and one more", nested, GLYF);
    }

    private static FontMaker kerned(int... pairs) {
        FontMaker maker = FontMaker.plain();
        maker.withKern = true;
        for (int i = 0; i < pairs.length; i += 3) {
            maker.pairs.add(new int[] {pairs[i], pairs[i + 1], pairs[i + 2]});
        }
        return maker;
    }

    private static void dueKern(String what, byte[] kern, int want) {
        dueWith("kern", kern, what, want);
    }

    private static void kern() {
        due("no pair", kerned(), 0);
        due("rising pairs", kerned(0, 1, 5, 1, 0, 6, 1, 1, 7), 0);
        due("firsts that fall", kerned(1, 0, 5, 0, 1, 6), KERN);
        due("seconds that fall", kerned(0, 1, 5, 0, 0, 6), KERN);
        due("the same pair twice", kerned(0, 1, 5, 0, 1, 5), KERN);
        due("numbers that are no glyphs", kerned(0, 9, 5, 40000, 1, 6, 65535, 65535, 7), 0);
        due("8 UNITS", kerned(0, 1, 8192, 1, 1, -8192), 0);
        due("above 8 UNITS", kerned(0, 1, 8193), KERN);
        due("below -8 UNITS", kerned(0, 1, -8193), KERN);
        byte[] kern = kerned(0, 1, 5, 1, 0, 6).kern();
        dueKern("a byte missing", cut(kern, kern.length - 1), KERN);
        dueKern("bytes more", cut(kern, kern.length + 5), 0);
        dueKern("version 1", put(kern, 0, 1), KERN);
        dueKern("no subtable", put(kern, 2, 0), KERN);
        dueKern("2 subtables", put(kern, 2, 2), 0);
        dueKern("256 subtables", put(kern, 2, 256), 0);
        dueKern("65535 subtables", put(kern, 2, 65535), 0);
        dueKern("a number that means nothing", put(kern, 4, 99), 0);
        dueKern("a length one less", put(kern, 6, 25), KERN);
        dueKern("a length one more", put(kern, 6, 27), KERN);
        dueKern("a length one more, and a byte", put(cut(kern, kern.length + 1), 6, 27), 0);
        dueKern("coverage 0", put(kern, 8, 0), KERN);
        dueKern("coverage 257", put(kern, 8, 257), KERN);
        dueKern("1 of 2 pairs", put(kern, 10, 1), 0);
        dueKern("3 of 2 pairs", put(kern, 10, 3), KERN);
        dueKern("17 bytes", cut(kerned().kern(), 17), KERN);
        dueKern("no bytes", new byte[0], KERN);
    }

    private static void order() {
        Map<String, byte[]> bad = new TreeMap<>();
        bad.put("head", new byte[4]);
        bad.put("maxp", new byte[4]);
        bad.put("hhea", new byte[4]);
        bad.put("hmtx", new byte[1]);
        bad.put("loca", new byte[1]);
        bad.put("cmap", new byte[1]);
        bad.put("glyf", null);
        bad.put("kern", new byte[4]);
        FontMaker maker = FontMaker.plain();
        maker.add(FontMaker.composite(77, 0, 0), 0);
        String[] tags = {"head", "maxp", "hhea", "hmtx", "loca", "cmap", "glyf", "kern"};
        for (int t = tags.length - 1; t >= 0; t--) {
            if (bad.get(tags[t]) != null) {
                maker.tables.put(tags[t], bad.get(tags[t]));
            }
            if (!tags[t].equals("kern")) {
                due("the first fault of many, " + tags[t], maker, 2 + t);
            }
        }
    }

    private static void whatStays() {
        GlyphPage page = new GlyphPage(16, 16);
        CHECK.due("font", FontMaker.plain().load(page), 0);
        page.size(20);
        FontMaker.feed(page, "aa");
        CHECK.due("text", page.text(0, 640, 20000), 1);
        int inked = page.inked();
        FontMaker bad = FontMaker.plain();
        bad.units = 15;
        CHECK.due("a bad font", bad.load(page), HEAD);
        CHECK.due("the tape is empty", page.end(1), GlyphPage.REFUSED);
        CHECK.due("the font stays", page.metric(0), 1024);
        CHECK.due("its glyphs stay", page.look(1, 2), 4);
        CHECK.due("the font stays behind another tape", page.glyph(97), 1);
        FontMaker other = FontMaker.plain();
        other.units = 2048;
        CHECK.due("another font", other.load(page), 0);
        CHECK.due("the tape is empty again", page.end(1), GlyphPage.REFUSED);
        CHECK.due("its units", page.metric(0), 2048);
        FontMaker.feed(page, "overwritten, but not the font's bytes");
        CHECK.due("its units", page.metric(0), 2048);
        CHECK.due("its glyphs", page.point(1, 2, 0), 640);
        CHECK.due("the size stays", page.size(20), 20);
        CHECK.due("the page stays", page.inked(), inked);
        CHECK.due("the lines stay", page.line(0, 1), 2);
    }
}
