/** Promises 1 to 3, 5, 7 and 15 to 18: the calls that need no outline. */
public final class CallEdgeTest extends Edges {
    public static void main(String[] args) {
        clampedSides();
        newObject();
        tapeLimit();
        fullFeed();
        byteOrder();
        ends();
        cutBytes();
        sizes();
        metrics();
        pixels();
        rows();
        inkedAndClear();
        lastCalls();
        apart();
        CHECK.finish();
    }

    private static int clamped(int v) {
        return v < 1 ? 1 : v > 64 ? 64 : v;
    }

    private static void clampedSides() {
        sentence("A page of width and height pixels, 1 to 64 each, clamped");
        int[] sides = {MIN, -64, -1, 0, 1, 2, 31, 32, 33, 63, 64, 65, 128, 65537, MAX};
        for (int a : sides) {
            for (int b : new int[] {1, 7, 64, a}) {
                dueSides(a, b);
                dueSides(b, a);
            }
        }
    }

    private static void dueSides(int width, int height) {
        GlyphPage page = new GlyphPage(width, height);
        int w = clamped(width);
        int h = clamped(height);
        String name = "new GlyphPage(" + width + ", " + height + ") ";
        due(name + "the last pixel", page.pixel(w - 1, h - 1), 0);
        due(name + "behind the last of a row", page.pixel(w, h - 1), NONE);
        due(name + "below the last row", page.pixel(w - 1, h), NONE);
        FontMaker.load(page, full().file());
        due(name + "all pixels", page.stamp(1, 0, 5000), w * h);
        due(name + "the last row", page.row(h - 1), w == 64 ? -1L : (1L << w) - 1);
        due(name + "the row below it", page.row(h), 0);
    }

    /** Glyph 1 covers all that a page may have. */
    private static FontMaker full() {
        FontMaker maker = FontMaker.plain();
        maker.glyphs.set(1, FontMaker.simple(new int[][] {
            {0, 0, 1, 0, 10000, 1, 10000, 10000, 1, 10000, 0, 1}}));
        return maker;
    }

    private static void newObject() {
        GlyphPage page = new GlyphPage(64, 64);
        sentence("THE TAPE has bytes, none at first");
        due("end(1)", page.end(1), REFUSED);
        due("end(0)", page.end(0), 0);
        sentence("THE FONT: a file that was read; none at first");
        due("metric(0)", page.metric(0), NONE);
        due("glyph(0)", page.glyph(0), NONE);
        due("look(0, 0)", page.look(0, 0), NONE);
        due("stamp(0, 0, 0)", page.stamp(0, 0, 0), NONE);
        due("winding(0, 0, 0)", page.winding(0, 0, 0), 2000);
        sentence("THE PAGE has pixels, not set at first");
        due("inked", page.inked(), 0);
        for (int j = 0; j < 64; j++) {
            due("row(" + j + ")", page.row(j), 0);
        }
        due("line(0, 0)", page.line(0, 0), NONE);
        sentence("SIZE n (pixels for UNITS, 16 at first)");
        due("size(16)", page.size(16), 16);
        GlyphPage fresh = loaded(FontMaker.plain());
        due("the square of 640 of 1024 units", fresh.stamp(1, 0, 640), 100);
        due("size(17)", fresh.size(17), 16);
    }

    private static void tapeLimit() {
        sentence("how many it has; FULL if it would have more than 4096");
        for (int rest = 0; rest < 20; rest++) {
            GlyphPage page = new GlyphPage(1, 1);
            int due = rest;
            page.feed(1, 1, 1, 1, 1);
            page.end(rest);
            while (due + 20 <= 4096) {
                due += 20;
                due("feed up to " + due, page.feed(1, 1, 1, 1, 1), due);
            }
            due("feed at " + due, page.feed(1, 1, 1, 1, 1), FULL);
            due("feed again at " + due, page.feed(1, 1, 1, 1, 1), FULL);
            due("nothing has come: end", page.end(due + 1), REFUSED);
            due("nothing is lost: end", page.end(due), due);
        }
    }

    private static void fullFeed() {
        sentence("FULL if it would have more than 4096");
        GlyphPage page = new GlyphPage(1, 1);
        for (int i = 1; i <= 204; i++) {
            due("feed " + i, page.feed(0, 0, 0, 0, 0), 20 * i);
        }
        due("end(4077)", page.end(4077), 4077);
        due("feed to 4097", page.feed(0, 0, 0, 0, 0), FULL);
        due("end(4076)", page.end(4076), 4076);
        due("feed to 4096", page.feed(0, 0, 0, 0, 0), 4096);
        due("feed to 4116", page.feed(0, 0, 0, 0, 0), FULL);
        due("end(4075)", page.end(4075), 4075);
        due("feed to 4095", page.feed(0, 0, 0, 0, 0), 4095);
        due("feed to 4115", page.feed(0, 0, 0, 0, 0), FULL);
        due("the tape is a file of 4095 bytes", page.font(), DIRECTORY);
        due("and empty then", page.feed(0, 0, 0, 0, 0), 20);
        greatFile();
    }

    /** A font of 4096 bytes, all of which count. */
    private static void greatFile() {
        FontMaker maker = FontMaker.plain();
        int more = 4096 - maker.file().length - 16;
        maker.tables.put("zzzz", new byte[more]);
        byte[] file = maker.file();
        due("its bytes", file.length, 4096);
        judged("4096 bytes", file, GOOD);
        judged("4096 bytes, the last of them another", putOne(file, 4095, 1), DIRECTORY);
    }

    private static void byteOrder() {
        sentence("Twenty bytes, five times four, the highest of each first");
        for (int place = 0; place < 20; place++) {
            GlyphPage page = loaded(FontMaker.plain());
            int[] numbers = new int[5];
            numbers[place / 4] = 10 << 8 * (3 - place % 4);
            due("feed", page.feed(numbers[0], numbers[1], numbers[2], numbers[3], numbers[4]), 20);
            due("lines, a byte 10 at " + place, page.text(0, 0, 20000), place == 19 ? 1 : 2);
            due("the first line, a byte 10 at " + place, page.line(0, 1), place);
            due("the second line, a byte 10 at " + place, page.line(1, 0), place == 19 ? NONE : place + 1);
        }
        GlyphPage page = loaded(FontMaker.plain());
        page.feed(0x61616161, 0xFF80FF61, MIN, -1, 0x0A0A0A0A);
        due("bytes with their highest bit", page.text(0, 0, 20000), 4);
        due("the first line", page.line(0, 1), 16);
        due("a is 700, all else 500", page.line(0, 2), 5 * 700 + 11 * 500);
    }

    private static void ends() {
        sentence("The TAPE is cut to its first n bytes: n; REFUSED if it has less, or n is below 0.");
        GlyphPage page = new GlyphPage(4, 4);
        int[][] calls = {{MIN, REFUSED}, {-1, REFUSED}, {1, REFUSED}, {MAX, REFUSED}, {0, 0}};
        for (int[] c : calls) {
            due("end(" + c[0] + ") of none", page.end(c[0]), c[1]);
        }
        page.feed(0, 0, 0, 0, 0);
        int[][] more = {{-1, REFUSED}, {MIN, REFUSED}, {21, REFUSED}, {MAX, REFUSED}, {20, 20}, {20, 20},
            {19, 19}, {20, REFUSED}, {18, 18}, {1, 1}, {2, REFUSED}, {0, 0}, {1, REFUSED}};
        for (int[] c : more) {
            due("end(" + c[0] + ")", page.end(c[0]), c[1]);
        }
        due("feed behind it", page.feed(0, 0, 0, 0, 0), 20);
    }

    /** What was cut off is gone: feed goes on behind what is left. */
    private static void cutBytes() {
        sentence("The TAPE is cut to its first n bytes");
        GlyphPage page = loaded(FontMaker.plain());
        page.feed(0x61610A61, 0x61616161, 0x61616161, 0x61616161, 0x61616161);
        due("end(2)", page.end(2), 2);
        page.feed(0x20202020, 0x0A616161, 0, 0, 0);
        due("end(8)", page.end(8), 8);
        due("lines", page.text(0, 0, 20000), 2);
        due("the first ends", page.line(0, 1), 6);
        due("its width", page.line(0, 2), 1400);
        due("the second ends", page.line(1, 1), 8);
    }

    private static void sizes() {
        sentence("SIZE becomes n: what it was. REFUSED if n is not 4 to 64.");
        GlyphPage page = new GlyphPage(4, 4);
        int before = 16;
        for (int n : new int[] {4, 5, 63, 64, 16, 64, 4, 4}) {
            for (int bad : new int[] {3, 65, 0, -1, -4, -64, 65536 + 8, MIN, MAX}) {
                due("size(" + bad + ")", page.size(bad), REFUSED);
            }
            due("size(" + n + ")", page.size(n), before);
            before = n;
        }
    }

    private static void metrics() {
        sentence("Below 0 may be told (what 2 to 4); NONE without a font (what 0, 1), else 0; REFUSED for "
                + "another what, first.");
        GlyphPage none = new GlyphPage(4, 4);
        FontMaker maker = FontMaker.plain();
        maker.ascent = -1;
        maker.descent = -2;
        maker.gap = -3;
        GlyphPage page = loaded(maker);
        int[][] want = {{MIN, REFUSED, REFUSED}, {-1, REFUSED, REFUSED}, {0, NONE, 1024}, {1, NONE, 2},
            {2, 0, -1}, {3, 0, -2}, {4, 0, -3}, {5, REFUSED, REFUSED}, {MAX, REFUSED, REFUSED}};
        for (int[] w : want) {
            due("metric(" + w[0] + ") without a font", none.metric(w[0]), w[1]);
            due("metric(" + w[0] + ")", page.metric(w[0]), w[2]);
        }
    }

    /** A page of 5 times 4 pixels, all but the first column and the first row set. */
    private static GlyphPage painted() {
        GlyphPage page = loaded(full(), 5, 4);
        due("stamp", page.stamp(1, 64, 10064), 12);
        return page;
    }

    private static void pixels() {
        sentence("1 if a pixel is set, 0 if not. NONE if there is none.");
        GlyphPage page = painted();
        for (int x : new int[] {MIN, -1, 0, 1, 4, 5, 64, MAX}) {
            for (int y : new int[] {MIN, -1, 0, 1, 3, 4, 64, MAX}) {
                boolean none = x < 0 || x > 4 || y < 0 || y > 3;
                due("pixel(" + x + ", " + y + ")", page.pixel(x, y),
                        none ? NONE : x > 0 && y > 0 ? 1 : 0);
            }
        }
        GlyphPage great = loaded(full());
        great.stamp(1, 4000, 10000);
        due("pixel(61, 63)", great.pixel(61, 63), 0);
        due("pixel(62, 63)", great.pixel(62, 63), 1);
        due("pixel(63, 63)", great.pixel(63, 63), 1);
        due("pixel(64, 63)", great.pixel(64, 63), NONE);
    }

    private static void rows() {
        sentence("The pixels of a row: bit x 1 for one that is set; 0 if there is no such row.");
        GlyphPage page = painted();
        int[][] want = {{MIN, 0}, {-1, 0}, {0, 0}, {1, 30}, {3, 30}, {4, 0}, {64, 0}, {MAX, 0}};
        for (int[] w : want) {
            due("row(" + w[0] + ")", page.row(w[0]), w[1]);
        }
        GlyphPage great = loaded(full());
        great.stamp(1, 4000, 10000);
        due("row(63), the last two bits", great.row(63), 3L << 62);
        great.stamp(1, 1984, 10000);
        due("row(0), from bit 31 on", great.row(0), -1L << 31);
        great.stamp(1, 0, 10000);
        due("row(63), all bits", great.row(63), -1L);
    }

    private static void inkedAndClear() {
        GlyphPage page = painted();
        sentence("How many pixels are set.");
        due("inked", page.inked(), 12);
        due("the first row too", page.stamp(1, 64, 10000), 4);
        due("inked", page.inked(), 16);
        due("all of it", page.stamp(1, 0, 10000), 4);
        due("inked", page.inked(), 20);
        due("nothing more", page.stamp(1, 0, 10000), 0);
        due("inked", page.inked(), 20);
        sentence("No pixel is set then: how many were.");
        due("clear", page.clear(), 20);
        due("inked", page.inked(), 0);
        due("clear", page.clear(), 0);
        for (int j = 0; j < 4; j++) {
            due("row", page.row(j), 0);
        }
        due("all of it again", page.stamp(1, 0, 10000), 20);
        GlyphPage great = loaded(full());
        great.stamp(1, 0, 10000);
        due("clear of all pixels that a page may have", great.clear(), 4096);
        GlyphPage small = loaded(full(), 1, 1);
        small.stamp(1, 0, 10000);
        due("clear of one pixel", small.clear(), 1);
        whatClearLeaves();
    }

    private static void whatClearLeaves() {
        sentence("No pixel is set then");
        GlyphPage page = loaded(FontMaker.plain());
        page.size(20);
        FontMaker.feed(page, "a\na");
        page.text(0, 700, 20000);
        FontMaker.feed(page, "abc");
        CHECK.isTrue("some were set", page.clear() > 0);
        due("the font stays", page.metric(0), 1024);
        due("SIZE stays", page.size(16), 20);
        due("the tape stays", page.end(3), 3);
        due("the lines stay", page.line(1, 0), 2);
    }

    /** The 512th call is still answered; those behind it may answer anything, but they do answer. */
    private static void lastCalls() {
        sentence("An object is used for at most 512 calls after it has been made");
        GlyphPage page = new GlyphPage(16, 16);
        byte[] file = FontMaker.plain().file();
        int calls = (file.length + 19) / 20 + 2;
        due("font", FontMaker.load(page, file), GOOD);
        for (; calls < 509; calls += 2) {
            due("stamp after " + calls + " calls", page.stamp(1, 0, 640), 100);
            due("clear after " + (calls + 1) + " calls", page.clear(), 100);
        }
        for (; calls < 511; calls++) {
            due("size after " + calls + " calls", page.size(16), 16);
        }
        due("the 512th call", page.stamp(1, 0, 640), 100);
        for (int i = 0; i < 600; i++) {
            page.feed(i, i, i, i, i);
            page.stamp(1, i, i);
            page.text(i, i, i);
            page.font();
            page.clear();
        }
    }

    private static void apart() {
        sentence("A page of width and height pixels, 1 to 64 each, clamped; no font.");
        GlyphPage one = loaded(FontMaker.plain(), 16, 16);
        GlyphPage two = new GlyphPage(8, 8);
        one.size(32);
        one.feed(1, 2, 3, 4, 5);
        one.stamp(1, 0, 640);
        due("another object's font", two.metric(0), NONE);
        due("another object's SIZE", two.size(20), 16);
        due("another object's tape", two.end(1), REFUSED);
        due("another object's page", two.inked(), 0);
        due("its own SIZE", one.size(16), 32);
        due("its own tape", one.end(20), 20);
    }
}
