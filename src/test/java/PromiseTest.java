/** The promises one by one, with ordinary inputs, the edges that the document names, and wrong ones. */
public final class PromiseTest {
    private static final Check CHECK = new Check();
    private static final int MIN = Integer.MIN_VALUE, MAX = Integer.MAX_VALUE;

    public static void main(String[] args) {
        newObject();
        feed();
        end();
        size();
        glyph();
        glyphByRange();
        metric();
        look();
        point();
        partPoints();
        kern();
        winding();
        windingOfBends();
        stamp();
        stampEdges();
        text();
        textPlaces();
        textRefused();
        lineBreaks();
        line();
        pixelsAndRows();
        clear();
        CHECK.finish();
    }

    private static void due(String call, long got, long want) {
        CHECK.due(call, got, want);
    }

    private static GlyphPage plainPage(int width, int height) {
        GlyphPage page = new GlyphPage(width, height);
        due("font", FontMaker.plain().load(page), 0);
        return page;
    }

    private static void newObject() {
        int[][] sizes = {{1, 1, 1, 1}, {64, 64, 64, 64}, {0, 65, 1, 64}, {-5, MIN, 1, 1},
            {MAX, 7, 64, 7}, {65, 0, 64, 1}};
        for (int[] s : sizes) {
            GlyphPage page = new GlyphPage(s[0], s[1]);
            String name = "new GlyphPage(" + s[0] + ", " + s[1] + ") ";
            due(name + "last pixel", page.pixel(s[2] - 1, s[3] - 1), 0);
            due(name + "behind in x", page.pixel(s[2], 0), GlyphPage.NONE);
            due(name + "behind in y", page.pixel(0, s[3]), GlyphPage.NONE);
            due(name + "inked", page.inked(), 0);
            due(name + "no font", page.metric(0), GlyphPage.NONE);
            due(name + "size", page.size(16), 16);
            due(name + "empty tape", page.end(1), GlyphPage.REFUSED);
            due(name + "no lines", page.line(0, 0), GlyphPage.NONE);
        }
    }

    private static void feed() {
        GlyphPage page = new GlyphPage(4, 4);
        for (int i = 1; i <= 204; i++) {
            due("feed " + i, page.feed(0, 0, 0, 0, 0), 20 * i);
        }
        due("feed at 4080", page.feed(1, 1, 1, 1, 1), GlyphPage.FULL);
        due("it is still 4080", page.end(4080), 4080);
        due("end(4076)", page.end(4076), 4076);
        due("feed up to 4096", page.feed(1, 1, 1, 1, 1), 4096);
        due("feed at 4096", page.feed(1, 1, 1, 1, 1), GlyphPage.FULL);
        due("end(4077)", page.end(4077), 4077);
        due("feed at 4077", page.feed(1, 1, 1, 1, 1), GlyphPage.FULL);
        due("a file of 4077 bytes", page.font(), 1);
        due("feed to the empty tape", page.feed(-1, MIN, MAX, 0, 1), 20);
        bytesOfFeed();
    }

    /** The bytes come in the order that is promised: seen by the lines they make. */
    private static void bytesOfFeed() {
        GlyphPage page = plainPage(8, 8);
        due("feed", page.feed(0x610A6161, 0x0A616161, 0x610A0A61, 0x61616161, 0x0AFF610A), 20);
        due("text", page.text(0, 0, 20000), 6);
        int[] ends = {1, 4, 9, 10, 16, 19};
        for (int k = 0; k < ends.length; k++) {
            due("line " + k, page.line(k, 1), ends[k]);
        }
    }

    private static void end() {
        GlyphPage page = new GlyphPage(4, 4);
        due("end(0) of none", page.end(0), 0);
        due("end(1) of none", page.end(1), GlyphPage.REFUSED);
        page.feed(0, 0, 0, 0, 0);
        due("end(21)", page.end(21), GlyphPage.REFUSED);
        due("end(-1)", page.end(-1), GlyphPage.REFUSED);
        due("end(MIN)", page.end(MIN), GlyphPage.REFUSED);
        due("end(MAX)", page.end(MAX), GlyphPage.REFUSED);
        due("end(20)", page.end(20), 20);
        due("end(7)", page.end(7), 7);
        due("end(8)", page.end(8), GlyphPage.REFUSED);
        due("feed behind 7", page.feed(0, 0, 0, 0, 0), 27);
        due("end(0)", page.end(0), 0);
        due("feed behind 0", page.feed(0, 0, 0, 0, 0), 20);
    }

    private static void size() {
        GlyphPage page = new GlyphPage(4, 4);
        for (int n : new int[] {3, 65, 0, -4, MIN, MAX}) {
            due("size(" + n + ")", page.size(n), GlyphPage.REFUSED);
        }
        due("size(4)", page.size(4), 16);
        due("size(64)", page.size(64), 4);
        due("size(5)", page.size(5), 64);
        due("size(65)", page.size(65), GlyphPage.REFUSED);
        due("size(5)", page.size(5), 5);
    }

    private static void glyph() {
        GlyphPage page = new GlyphPage(4, 4);
        due("glyph(65536) without a font", page.glyph(65536), GlyphPage.REFUSED);
        due("glyph(65535) without a font", page.glyph(65535), GlyphPage.NONE);
        FontMaker maker = FontMaker.plain();
        maker.add(new byte[0], 0);
        maker.segments.clear();
        maker.segments.add(new int[] {10, 20, 65536 - 9, 0});
        maker.segments.add(new int[] {15, 30, 65536 - 28, 0});
        maker.segments.add(new int[] {50, 40, 0, 0});
        maker.segments.add(new int[] {65535, 65535, 3, 0});
        due("font", maker.load(page), 0);
        int[][] codes = {{9, 0}, {10, 1}, {11, 2}, {12, 0}, {20, 0}, {21, 0}, {28, 0}, {29, 1},
            {30, 2}, {31, 0}, {40, 0}, {50, 0}, {65534, 0}, {65535, 2}, {0, 0}};
        for (int[] c : codes) {
            due("glyph(" + c[0] + ")", page.glyph(c[0]), c[1]);
        }
        for (int code : new int[] {-1, 65536, MIN, MAX}) {
            due("glyph(" + code + ")", page.glyph(code), GlyphPage.REFUSED);
        }
        noSegmentForCode();
    }

    private static void noSegmentForCode() {
        FontMaker maker = FontMaker.plain();
        maker.segments.clear();
        maker.segments.add(new int[] {0, 100, 0, 0});
        GlyphPage page = new GlyphPage(4, 4);
        due("font", maker.load(page), 0);
        due("glyph(1)", page.glyph(1), 1);
        due("glyph(101), behind all segments", page.glyph(101), 0);
        due("glyph(65535), behind all segments", page.glyph(65535), 0);
        byte[] codes = maker.codes();
        codes[16] = -1;
        codes[17] = -1;
        maker.tables.put("cmap", FontMaker.cmap(codes));
        due("font", maker.load(page), 0);
        due("glyph(101), the number between END and START means nothing", page.glyph(101), 0);
        due("glyph(1)", page.glyph(1), 1);
    }

    private static void glyphByRange() {
        FontMaker maker = FontMaker.plain();
        maker.add(new byte[0], 0);
        maker.add(new byte[0], 0);
        maker.segments.clear();
        maker.segments.add(new int[] {10, 15, 1, 4});
        maker.segments.add(new int[] {20, 30000, 0, 6});
        byte[] codes = maker.codes(2, 0, 65535, 1, 9, 3);
        maker.tables.put("cmap", FontMaker.cmap(FontMaker.bytes().all(codes).two(1, 1, 1).done()));
        GlyphPage page = new GlyphPage(4, 4);
        due("font", maker.load(page), 0);
        // 10: 2 + DELTA; 11: 0 stays 0; 12: 65535 + 1; 13: 1 + 1; 14: 9 + 1, no glyph; 15: 3 + 1.
        int[][] first = {{10, 3}, {11, 0}, {12, 0}, {13, 2}, {14, 0}, {15, 0}, {9, 0}};
        for (int[] c : first) {
            due("glyph(" + c[0] + ")", page.glyph(c[0]), c[1]);
        }
        // The second RANGE is 2 bytes on: 6 leads to the third number, behind the sixth is no more.
        int[][] second = {{20, 0}, {21, 1}, {22, 0}, {23, 3}, {24, 0}, {25, 0}, {30000, 0}};
        for (int[] c : second) {
            due("glyph(" + c[0] + ")", page.glyph(c[0]), c[1]);
        }
        oddRange();
    }

    /** A number of which one byte lies behind the subtable is not in it. */
    private static void oddRange() {
        FontMaker maker = FontMaker.plain();
        maker.segments.clear();
        maker.segments.add(new int[] {10, 20, 0, 3});
        byte[] codes = maker.codes(0x0700, 0x01FF, 0);
        maker.tables.put("cmap", FontMaker.cmap(FontMaker.bytes().all(codes).one(1, 1).done()));
        GlyphPage page = new GlyphPage(4, 4);
        due("font", maker.load(page), 0);
        due("glyph(10) at an odd place", page.glyph(10), 1);
        due("glyph(11) at an odd place", page.glyph(11), 0);
        due("glyph(12), half in the subtable", page.glyph(12), 0);
    }

    private static void metric() {
        GlyphPage page = new GlyphPage(4, 4);
        int[] without = {GlyphPage.NONE, GlyphPage.NONE, 0, 0, 0};
        int[] with = {1024, 2, 800, -200, 24};
        for (int what : new int[] {-1, 5, MIN, MAX}) {
            due("metric(" + what + ") without a font", page.metric(what), GlyphPage.REFUSED);
        }
        for (int what = 0; what < 5; what++) {
            due("metric(" + what + ") without a font", page.metric(what), without[what]);
        }
        FontMaker.plain().load(page);
        for (int what = 0; what < 5; what++) {
            due("metric(" + what + ")", page.metric(what), with[what]);
        }
        due("metric(-1)", page.metric(-1), GlyphPage.REFUSED);
        due("metric(5)", page.metric(5), GlyphPage.REFUSED);
        FontMaker below = FontMaker.plain();
        below.ascent = -1;
        below.descent = -2;
        below.gap = -8192;
        below.load(page);
        due("ASCENT -1", page.metric(2), -1);
        due("DESCENT -2", page.metric(3), -2);
        due("GAP -8192", page.metric(4), -8192);
    }

    private static void look() {
        GlyphPage page = new GlyphPage(4, 4);
        due("look(0, 3) without a font", page.look(0, 3), GlyphPage.REFUSED);
        due("look(0, 0) without a font", page.look(0, 0), GlyphPage.NONE);
        FontMaker maker = FontMaker.plain();
        maker.add(FontMaker.composite(1, 0, 0, 1, 9, 9, 0, 0, 0), 333);
        maker.add(new byte[12], 444);
        maker.metrics = 3;
        due("font", maker.load(page), 0);
        int[][] looks = {{500, 0, 0}, {700, 1, 4}, {333, 2, 8}, {333, 0, 0}};
        for (int g = 0; g < looks.length; g++) {
            for (int what = 0; what < 3; what++) {
                due("look(" + g + ", " + what + ")", page.look(g, what), looks[g][what]);
            }
        }
        for (int g : new int[] {4, -1, MIN, MAX}) {
            due("look(" + g + ", 0)", page.look(g, 0), GlyphPage.NONE);
            due("look(" + g + ", 3)", page.look(g, 3), GlyphPage.REFUSED);
        }
        due("look(0, -1)", page.look(0, -1), GlyphPage.REFUSED);
        while (maker.glyphs.size() < 64) {
            maker.add(new byte[0], 1);
        }
        due("font", maker.load(page), 0);
        due("look(63, 2)", page.look(63, 2), 0);
        due("look(64, 2)", page.look(64, 2), GlyphPage.NONE);
    }

    private static void duePoint(GlyphPage page, int g, int k, int... want) {
        for (int what = 0; what < 4; what++) {
            due("point(" + g + ", " + k + ", " + what + ")", page.point(g, k, what), want[what]);
        }
    }

    /** Every way to tell a step: one byte up and down, two bytes, none; with flags that repeat. */
    private static byte[] stepGlyph() {
        return FontMaker.bytes().two(2).zeros(8).two(1, 6).two(3).one(8, 8, 8)
                .one(2 + 16 + 1).one(2 + 32).one(1 + 16 + 4 + 8, 2).one(16 + 4 + 32).one(64)
                .one(255).one(255).two(-300)
                .two(-1000).one(10, 20, 30).one(255).two(32767 - 815)
                .done();
    }

    private static void point() {
        GlyphPage page = new GlyphPage(4, 4);
        due("point(0, 0, 4) without a font", page.point(0, 0, 4), GlyphPage.REFUSED);
        due("point(0, 0, 0) without a font", page.point(0, 0, 0), 100000);
        FontMaker maker = FontMaker.plain();
        maker.add(stepGlyph(), 0);
        due("font", maker.load(page), 0);
        duePoint(page, 2, 0, 255, -1000, 1, 0);
        duePoint(page, 2, 1, 0, -1000, 0, 0);
        duePoint(page, 2, 2, 0, -1010, 1, 1);
        duePoint(page, 2, 3, 0, -1030, 1, 1);
        duePoint(page, 2, 4, 0, -1060, 1, 1);
        duePoint(page, 2, 5, 0, -805, 0, 1);
        duePoint(page, 2, 6, -300, 31147, 0, 1);
        for (int k : new int[] {7, -1, MIN, MAX, 300}) {
            duePoint(page, 2, k, 100000, 100000, 100000, 100000);
            due("point(2, " + k + ", 4)", page.point(2, k, 4), GlyphPage.REFUSED);
        }
        duePoint(page, 0, 0, 100000, 100000, 100000, 100000);
        duePoint(page, 3, 0, 100000, 100000, 100000, 100000);
        duePoint(page, -1, 0, 100000, 100000, 100000, 100000);
        due("point(1, 0, -1)", page.point(1, 0, -1), GlyphPage.REFUSED);
    }

    private static void partPoints() {
        FontMaker maker = FontMaker.plain();
        int dot = maker.add(FontMaker.simple(new int[][] {{3, 5, 1, -3, -5, 0}, {1, 0, 1}}), 0);
        FontMaker.Bytes parts = FontMaker.bytes().two(-1).zeros(8);
        parts.two(2 + 32, dot).one(-128, 127);
        parts.two(3 + 32, dot, 1000, -1000);
        parts.two(3 + 8 + 32, dot, 0, 0, 8192);
        parts.two(3 + 64 + 32, dot, 0, 0, -16384, 8192);
        parts.two(3 + 128, dot, 10, 20, 16384, 8192, -8192, 4096);
        int all = maker.add(parts.done(), 0);
        int outer = maker.add(FontMaker.bytes().two(-1).zeros(8)
                .two(3 + 8, all, 1, 1, 8192).done(), 0);
        GlyphPage page = new GlyphPage(4, 4);
        due("font", maker.load(page), 0);
        duePoint(page, all, 0, -125, 132, 1, 0);
        duePoint(page, all, 1, -131, 122, 0, 0);
        duePoint(page, all, 2, -127, 127, 1, 1);
        duePoint(page, all, 3, 1003, -995, 1, 2);
        duePoint(page, all, 4, 997, -1005, 0, 2);
        // Halves are rounded up: 1.5 to 2, -1.5 to -1.
        duePoint(page, all, 6, 2, 3, 1, 4);
        duePoint(page, all, 7, -1, -2, 0, 4);
        duePoint(page, all, 8, 1, 0, 1, 5);
        duePoint(page, all, 9, -3, 3, 1, 6);
        duePoint(page, all, 10, 3, -2, 0, 6);
        // x - y / 2 and x / 2 + y / 4: 0.5, 2.75; -0.5, -2.75; 1, 0.5.
        duePoint(page, all, 12, 11, 23, 1, 8);
        duePoint(page, all, 13, 10, 17, 0, 8);
        duePoint(page, all, 14, 11, 21, 1, 9);
        // The outer one halves what has been rounded already.
        duePoint(page, outer, 0, -61, 67, 1, 0);
        duePoint(page, outer, 6, 2, 3, 1, 4);
        duePoint(page, outer, 7, 1, 0, 0, 4);
        maker.add(FontMaker.bytes().two(-1).zeros(8)
                .two(3 + 64, dot, 0, 0, 8191, 8191).done(), 0);
        due("font", maker.load(page), 0);
        duePoint(page, outer + 1, 2, 0, 0, 1, 1);
        duePoint(page, outer + 1, 0, 1, 2, 1, 0);
        greatSums();
    }

    /** The sums of a matrix go beyond 32 bits. */
    private static void greatSums() {
        FontMaker maker = FontMaker.plain();
        int far = maker.add(FontMaker.simple(new int[][] {{-32768, -32768, 1}}), 0);
        maker.add(FontMaker.bytes().two(-1).zeros(8)
                .two(3 + 128, far, -32768, 0, -16384, 0, -16384, 0).done(), 0);
        GlyphPage page = new GlyphPage(4, 4);
        due("font", maker.load(page), 8);
        maker.glyphs.set(3, FontMaker.bytes().two(-1).zeros(8)
                .two(3 + 128, far, -32768, 0, -16383, -32768, -16384, 32767).done());
        due("font", maker.load(page), 0);
        duePoint(page, 3, 0, 32766, 2, 1, 0);
    }

    private static void kern() {
        GlyphPage page = new GlyphPage(4, 4);
        due("kern without a font", page.kern(0, 1), 0);
        FontMaker maker = FontMaker.plain();
        due("font", maker.load(page), 0);
        due("kern without the table", page.kern(0, 1), 0);
        int[][] pairs = {{0, 1, -8192}, {0, 65535, 3}, {1, 0, 8192}, {1, 1, -1}, {9, 9, 4},
            {32768, 5, 5}, {65535, 0, 6}, {65535, 65535, 7}};
        for (int[] pair : pairs) {
            maker.pairs.add(pair);
        }
        due("font", maker.load(page), 0);
        for (int[] pair : pairs) {
            due("kern(" + pair[0] + ", " + pair[1] + ")", page.kern(pair[0], pair[1]), pair[2]);
        }
        int[][] none = {{0, 0}, {0, 2}, {1, 2}, {2, 0}, {-1, 0}, {-1, -1}, {65536, 0}, {0, -1},
            {0, 65537}, {1, 65536}, {65535, 65536}, {MIN, MAX}, {65537, 0}, {65535, 1}};
        for (int[] pair : none) {
            due("kern(" + pair[0] + ", " + pair[1] + ")", page.kern(pair[0], pair[1]), 0);
        }
    }

    private static void winding() {
        GlyphPage page = new GlyphPage(4, 4);
        due("winding without a font", page.winding(0, 0, 0), 2000);
        FontMaker maker = FontMaker.plain();
        int[] square = {0, 0, 1, 0, 640, 1, 640, 640, 1, 640, 0, 1};
        int[] inner = {100, 100, 1, 100, 200, 1, 200, 200, 1, 200, 100, 1};
        int[] hole = {300, 300, 1, 400, 300, 1, 400, 400, 1, 300, 400, 1};
        int g = maker.add(FontMaker.simple(new int[][] {square, inner, hole, {500, 500, 0}}), 0);
        due("font", maker.load(page), 0);
        // 1024 units are 16 pixels: a unit is a 64th. On the page the square goes round rightwards.
        int[][] places = {{50, -50, 1}, {150, -150, 2}, {350, -350, 0}, {-1, -50, 0}, {641, -50, 0},
            {50, 1, 0}, {50, -641, 0}, {0, -50, 1000}, {640, -50, 1000}, {50, 0, 1000},
            {50, -640, 1000}, {0, 0, 1000}, {640, -640, 1000}, {300, -350, 1000},
            {500, -500, 1000}, {501, -500, 1}, {500, -499, 1}, {-5, -100, 0}, {700, -640, 0},
            {-1, -640, 0}, {20000, 20000, 0}, {-20000, -20000, 0}};
        for (int[] p : places) {
            due("winding(" + p[0] + ", " + p[1] + ")", page.winding(g, p[0], p[1]), p[2]);
        }
        int[][] far = {{20001, 0}, {-20001, 0}, {0, 20001}, {0, -20001}, {MIN, MIN}, {MAX, MAX}};
        for (int[] p : far) {
            due("winding(" + p[0] + ", " + p[1] + ")", page.winding(g, p[0], p[1]), 2000);
        }
        due("an empty glyph", page.winding(0, 0, 0), 0);
        due("an empty glyph, far out", page.winding(0, 0, 20001), 2000);
        due("no glyph", page.winding(4, 0, 0), 2000);
        due("no glyph", page.winding(-1, 0, 0), 2000);
        farOutlines();
    }

    private static void farOutlines() {
        FontMaker maker = FontMaker.plain();
        maker.add(FontMaker.simple(new int[][] {{20000, 20000, 1, 0, 0, 0, -20000, -20000, 0}}), 0);
        maker.add(FontMaker.simple(new int[][] {{20001, 0, 1}}), 0);
        maker.add(FontMaker.simple(new int[][] {{0, -20001, 0}}), 0);
        maker.add(FontMaker.simple(new int[][] {{0, 0, 1, -20001, 0, 0}}), 0);
        GlyphPage page = new GlyphPage(64, 64);
        due("font", maker.load(page), 0);
        due("coordinates of 20000", page.winding(2, 20000, -20000), 1000);
        due("x 20001", page.winding(3, 0, 0), 2000);
        due("y -20001", page.winding(4, 0, 0), 2000);
        due("x -20001", page.winding(5, 0, 0), 2000);
        due("stamp x 20001", page.stamp(3, 0, 0), GlyphPage.REFUSED);
        due("stamp x 20001, a place back", page.stamp(3, -1, 0), 0);
        due("stamp y 20001", page.stamp(4, 0, 0), GlyphPage.REFUSED);
        due("stamp y 20001, a place back", page.stamp(4, 0, -1), 0);
        page.size(4);
        due("smaller", page.winding(3, 0, 0), 0);
        due("smaller", page.winding(3, 5000, 0), 1000);
    }

    private static void windingOfBends() {
        FontMaker maker = FontMaker.plain();
        int bow = maker.add(FontMaker.simple(new int[][] {{0, 0, 1, 100, 200, 0, 200, 0, 1}}), 0);
        int ring = maker.add(FontMaker.simple(new int[][] {
            {0, 0, 0, 101, 0, 0, 101, 101, 0, 0, 101, 0}}), 0);
        int out = maker.add(FontMaker.simple(new int[][] {{0, 0, 1, 100, 100, 0}}), 0);
        int two = maker.add(FontMaker.simple(new int[][] {{0, 0, 0, 100, 100, 0}}), 0);
        int flat = maker.add(FontMaker.simple(new int[][] {{0, 0, 1, 100, 0, 0, 50, 0, 1}}), 0);
        int thirds = maker.add(FontMaker.simple(new int[][] {{0, 0, 0, 1, 0, 0, 51, 0, 0}}), 0);
        GlyphPage page = new GlyphPage(4, 4);
        due("font", maker.load(page), 0);
        int[][] places = {
            {thirds, 0, 0, 0}, {thirds, 1, 0, 1000}, {thirds, 38, 0, 1000}, {thirds, 39, 0, 0},
            {bow, 100, -100, 1000}, {bow, 100, -99, 1}, {bow, 100, -101, 0}, {bow, 50, -75, 1000},
            {bow, 50, -76, 0}, {bow, 50, -74, 1}, {bow, 99, -100, 0}, {bow, 101, -100, 0},
            {bow, 100, 0, 1000}, {bow, 100, -200, 0}, {bow, 0, 0, 1000}, {bow, -1, 0, 0},
            {ring, 50, -50, -1}, {ring, 0, -50, 0}, {ring, 0, -51, 0}, {ring, 0, 0, 0},
            {ring, 12, -13, 0}, {ring, 13, -13, -1},
            {out, 50, -50, 1000}, {out, 51, -51, 0}, {out, 49, -49, 1000}, {out, 49, -50, 0},
            {out, 0, 0, 1000}, {out, 25, -25, 1000}, {out, -1, 1, 0},
            {two, 50, -50, 1000}, {two, 25, -25, 1000}, {two, 24, -24, 0}, {two, 75, -75, 1000},
            {two, 76, -76, 0}, {two, 0, 0, 0},
            {flat, 66, 0, 1000}, {flat, 67, 0, 0}, {flat, 50, 0, 1000}, {flat, -1, 0, 0},
            {flat, 0, 0, 1000}, {flat, 60, 1, 0}};
        for (int[] p : places) {
            due("winding(" + p[0] + ", " + p[1] + ", " + p[2] + ")",
                    page.winding(p[0], p[1], p[2]), p[3]);
        }
    }

    private static void stamp() {
        GlyphPage page = new GlyphPage(16, 12);
        due("stamp without a font", page.stamp(0, 0, 0), GlyphPage.NONE);
        due("stamp far out without a font", page.stamp(0, 20001, 0), GlyphPage.NONE);
        due("font", FontMaker.plain().load(page), 0);
        due("a square", page.stamp(1, 0, 640), 100);
        for (int j = 0; j < 12; j++) {
            due("row " + j, page.row(j), j < 10 ? 1023 : 0);
        }
        due("again", page.stamp(1, 0, 640), 0);
        due("a pixel on", page.stamp(1, 64, 704), 19);
        due("inked", page.inked(), 119);
        due("no glyph", page.stamp(2, 0, 0), GlyphPage.NONE);
        due("no glyph", page.stamp(-1, 0, 0), GlyphPage.NONE);
        due("no glyph, far out", page.stamp(2, 20001, 0), GlyphPage.NONE);
        int[][] far = {{20001, 0}, {-20001, 0}, {0, 20001}, {0, -20001}, {MIN, 0}, {0, MAX},
            {19361, 0}, {0, -19361}};
        for (int[] p : far) {
            due("stamp(1, " + p[0] + ", " + p[1] + ")", page.stamp(1, p[0], p[1]),
                    GlyphPage.REFUSED);
        }
        due("at the edge", page.stamp(1, 19360, 20000), 0);
        due("at the edge", page.stamp(1, -20000, -19360), 0);
        due("an empty glyph", page.stamp(0, 0, 0), 0);
        due("an empty glyph at the edge", page.stamp(0, 20000, -20000), 0);
        due("an empty glyph, far out", page.stamp(0, 20001, 0), GlyphPage.REFUSED);
        due("inked", page.inked(), 119);
    }

    /** Centres that lie on the outline are set, on every side of it. */
    private static void stampEdges() {
        GlyphPage page = plainPage(16, 16);
        due("edges on centres", page.stamp(1, 32, 672), 121);
        page.clear();
        due("edges a 64th behind centres", page.stamp(1, 33, 673), 100);
        page.clear();
        due("edges a 64th before centres", page.stamp(1, 31, 671), 100);
        page.clear();
        due("half out of the page", page.stamp(1, -320, 320), 25);
        due("row", page.row(4), 31);
        due("row", page.row(5), 0);
        page.clear();
        due("out of the page", page.stamp(1, 1024, 640), 0);
        due("out of the page", page.stamp(1, -640, 640), 0);
        due("out of the page", page.stamp(1, 0, 0), 0);
        manyCurves();
        due("all of the page", allOf(64), 4096);
        due("all of the page", allOf(1), 1);
        sizes();
    }

    /** 256 curves, then one: nothing of the others may be left. */
    private static void manyCurves() {
        FontMaker maker = FontMaker.plain();
        int[] row = new int[3 * 128];
        for (int i = 0; i < 128; i++) {
            row[3 * i] = i % 2 * 64;
            row[3 * i + 1] = i * 8;
            row[3 * i + 2] = 1;
        }
        int comb = maker.add(FontMaker.simple(new int[][] {row}), 0);
        int combs = maker.add(FontMaker.composite(comb, 0, 0, comb, 512, 0), 0);
        int dot = maker.add(FontMaker.simple(new int[][] {{0, 0, 0}}), 0);
        int none = maker.add(new byte[12], 0);
        GlyphPage page = new GlyphPage(16, 16);
        due("font", maker.load(page), 0);
        due("256 points", page.look(combs, 2), 256);
        due("the last line of 256", page.winding(combs, 544, -508), 1000);
        int set = page.stamp(combs, 0, 1024);
        due("both halves alike", page.row(7), (page.row(7) & 255) * 257);
        CHECK.isTrue("some are set", set >= 16);
        due("clear", page.clear(), set);
        due("a dot on a centre", page.stamp(dot, 96, 160), 1);
        due("its row", page.row(2), 2);
        due("a dot beside it", page.stamp(dot, 97, 160), 0);
        due("a dot below it", page.stamp(dot, 96, 161), 0);
        due("a dot at the last centre", page.stamp(dot, 992, 992), 1);
        due("a dot behind the last centre", page.stamp(dot, 1056, 992), 0);
        due("a dot before the first centre", page.stamp(dot, -32, 32), 0);
        due("no contours", page.stamp(none, 96, 160), 0);
        due("inked", page.inked(), 2);
    }

    private static long allOf(int side) {
        GlyphPage page = plainPage(side, side);
        page.size(64);
        page.stamp(1, 0, 2560);
        page.stamp(1, 1600, 2560);
        page.stamp(1, 0, 4160);
        page.stamp(1, 1600, 4160);
        due("the last row", page.row(side - 1), side == 64 ? -1L : 1L);
        return page.inked();
    }

    /** v units are (128 n v + UNITS) / (2 UNITS) 64ths, rounded down, below 0 too. */
    private static void sizes() {
        FontMaker maker = FontMaker.plain();
        maker.units = 1000;
        maker.add(FontMaker.simple(new int[][] {{-37, -53, 1}}), 0);
        GlyphPage page = new GlyphPage(4, 4);
        due("font", maker.load(page), 0);
        for (int n = 4; n <= 64; n++) {
            page.size(n);
            int x = Math.floorDiv(128 * n * -37 + 1000, 2000);
            int y = -Math.floorDiv(128 * n * -53 + 1000, 2000);
            due("size " + n, page.winding(2, x, y), 1000);
            due("size " + n, page.winding(2, x + 1, y), 0);
            due("size " + n, page.winding(2, x, y + 1), 0);
            due("size " + n, page.winding(2, x - 1, y), 0);
        }
    }

    private static GlyphPage written(String text, int width) {
        GlyphPage page = plainPage(64, 64);
        FontMaker.feed(page, text);
        page.text(0, 640, width);
        return page;
    }

    private static void text() {
        GlyphPage page = new GlyphPage(64, 64);
        FontMaker.feed(page, "aaa");
        due("text without a font", page.text(0, 0, 100), GlyphPage.NONE);
        due("then the tape is empty", page.end(1), GlyphPage.REFUSED);
        due("text of no bytes without a font", page.text(0, 0, 100), GlyphPage.NONE);
        due("font", FontMaker.plain().load(page), 0);
        due("text of no bytes", page.text(0, 0, 100), 0);
        FontMaker.feed(page, "aa");
        due("text", page.text(0, 640, 20000), 1);
        due("the tape is empty", page.end(1), GlyphPage.REFUSED);
        due("two squares, the second at 700", page.inked(), 200);
        due("row 0", page.row(0), 1023 | 1023L << 11);
        due("width", page.line(0, 2), 1400);
        due("text of no bytes", page.text(0, 0, 100), 0);
        due("has no line", page.line(0, 0), GlyphPage.NONE);
        due("but what was set is", page.inked(), 200);
        String[] texts = {"\n", "\n\n", "a\n", "a\na", "a\n\na", "\na", "\n\n\n"};
        int[] counts = {1, 2, 1, 2, 3, 2, 3};
        for (int i = 0; i < texts.length; i++) {
            FontMaker.feed(page, texts[i]);
            due("lines of text " + i, page.text(0, 0, 20000), counts[i]);
        }
    }

    private static void textPlaces() {
        FontMaker maker = FontMaker.plain();
        maker.pairs.add(new int[] {1, 1, -100});
        maker.segments.set(0, new int[] {97, 98, 1 - 97, 0});
        maker.add(FontMaker.simple(new int[][] {{-30000, 0, 1}}), 400);
        GlyphPage page = new GlyphPage(64, 64);
        due("font", maker.load(page), 0);
        FontMaker.feed(page, "aba\naa\n\na");
        due("lines", page.text(3, 640, 20000), 4);
        GlyphPage stamps = new GlyphPage(64, 64);
        maker.load(stamps);
        // ASCENT - DESCENT + GAP are 1024 units; b is not stamped, but goes on.
        int[][] places = {{3, 640}, {1103, 640}, {3, 1664}, {603, 1664}, {3, 3712}};
        for (int[] p : places) {
            stamps.stamp(1, p[0], p[1]);
        }
        for (int j = 0; j < 64; j++) {
            due("row " + j, page.row(j), stamps.row(j));
        }
        due("width with a kern", page.line(1, 2), 1300);
        due("width", page.line(0, 2), 1800);
        upwards(maker);
    }

    /** The drop is scaled as a whole, and may go up. */
    private static void upwards(FontMaker maker) {
        maker.units = 1000;
        maker.ascent = -401;
        maker.descent = 100;
        maker.gap = -100;
        GlyphPage page = new GlyphPage(64, 64);
        GlyphPage stamps = new GlyphPage(64, 64);
        maker.load(page);
        maker.load(stamps);
        FontMaker.feed(page, "a\na\na");
        due("lines", page.text(-20, 3000, 0), 3);
        int drop = Math.floorDiv(128 * 16 * -601 + 1000, 2000);
        for (int k = 0; k < 3; k++) {
            stamps.stamp(1, -20, 3000 + k * drop);
        }
        for (int j = 0; j < 64; j++) {
            due("row " + j, page.row(j), stamps.row(j));
        }
    }

    private static void textRefused() {
        GlyphPage page = plainPage(64, 64);
        FontMaker.feed(page, "a\na");
        page.text(0, 0, 500);
        int[][] bad = {{20001, 0, 0}, {-20001, 0, 0}, {0, 20001, 0}, {0, -20001, 0}, {0, 0, -1},
            {0, 0, 20001}, {MIN, MAX, MIN}};
        FontMaker.feed(page, "aaa");
        for (int[] b : bad) {
            due("text(" + b[0] + ", " + b[1] + ", " + b[2] + ")", page.text(b[0], b[1], b[2]),
                    GlyphPage.REFUSED);
        }
        due("the lines stay", page.line(1, 1), 3);
        due("the tape stays", page.end(3), 3);
        due("text at the edges", page.text(20000, -20000, 20000), 1);
        due("another line", page.line(0, 1), 3);
        FontMaker.feed(page, "a".repeat(200));
        due("200 bytes", page.text(-20000, 20000, 0), 1);
        FontMaker.feed(page, "\n".repeat(200));
        due("200 lines", page.text(0, 0, 0), 200);
        due("the last line", page.line(199, 0), 199);
        FontMaker.feed(page, "a".repeat(201));
        due("201 bytes", page.text(0, 0, 0), GlyphPage.REFUSED);
        due("the tape stays", page.end(201), 201);
        GlyphPage none = new GlyphPage(8, 8);
        FontMaker.feed(none, "a".repeat(201));
        due("201 bytes without a font", none.text(0, 0, 0), GlyphPage.REFUSED);
        due("the tape stays", none.end(200), 200);
        due("REFUSED is first", none.text(0, 0, -1), GlyphPage.REFUSED);
        due("200 bytes without a font", none.text(0, 0, 0), GlyphPage.NONE);
    }

    /** begin, end, width of each line; a is 700 wide, all else 500. */
    private static void dueLines(String text, int width, int... want) {
        GlyphPage page = written(text, width);
        String name = "'" + text.replace("\n", "\\n") + "' in " + width + ": ";
        for (int i = 0; i < want.length; i++) {
            due(name + "line(" + i / 3 + ", " + i % 3 + ")", page.line(i / 3, i % 3), want[i]);
        }
        due(name + "no more line", page.line(want.length / 3, 0), GlyphPage.NONE);
    }

    private static void lineBreaks() {
        dueLines("a a", 1900, 0, 3, 1900);
        dueLines("a a", 1899, 0, 2, 700, 2, 3, 700);
        dueLines("a a", 0, 0, 2, 700, 2, 3, 700);
        dueLines("a   a", 700, 0, 4, 700, 4, 5, 700);
        dueLines("a   ", 700, 0, 4, 700);
        dueLines("   a", 0, 0, 3, 0, 3, 4, 700);
        dueLines("   a", 2200, 0, 4, 2200);
        dueLines("   ", 0, 0, 3, 0);
        dueLines("a-a", 1200, 0, 2, 1200, 2, 3, 700);
        dueLines("a-a", 1199, 0, 2, 1200, 2, 3, 700);
        dueLines("a--a", 1200, 0, 2, 1200, 2, 4, 1200);
        dueLines("a- a", 1200, 0, 3, 1200, 3, 4, 700);
        dueLines("a -a", 1200, 0, 2, 700, 2, 4, 1200);
        dueLines("a -a", 700, 0, 2, 700, 2, 3, 500, 3, 4, 700);
        dueLines("aaaa", 100, 0, 4, 2800);
        dueLines("aaaa a", 100, 0, 5, 2800, 5, 6, 700);
        dueLines("a \na", 5000, 0, 2, 700, 3, 4, 700);
        dueLines("a-\na", 100, 0, 2, 1200, 3, 4, 700);
        dueLines("a a\na", 1900, 0, 3, 1900, 4, 5, 700);
        dueLines("a a\na", 800, 0, 2, 700, 2, 3, 700, 4, 5, 700);
        dueLines("\n a", 20000, 0, 0, 0, 1, 3, 1200);
        dueLines("a\n\n", 20000, 0, 1, 700, 2, 2, 0);
        dueLines("\n", 0, 0, 0, 0);
        dueLines(" \n ", 0, 0, 1, 0, 2, 3, 0);
        dueLines("-", 0, 0, 1, 500);
        dueLines("a\u00ff\u0000a", 20000, 0, 4, 2400);
        narrowerByKern();
    }

    /** More bytes may be narrower: as many as it can, not the last before the first too wide. */
    private static void narrowerByKern() {
        FontMaker maker = FontMaker.plain();
        maker.segments.add(0, new int[] {45, 45, 2 - 45, 0});
        maker.add(new byte[0], 500);
        maker.pairs.add(new int[] {2, 1, -2000});
        GlyphPage page = new GlyphPage(8, 8);
        due("font", maker.load(page), 0);
        FontMaker.feed(page, "a-a-a");
        due("lines", page.text(0, 0, 200), 1);
        due("all bytes", page.line(0, 1), 5);
        due("a width below 0", page.line(0, 2), -900);
        FontMaker.feed(page, "a-a-");
        due("all bytes are narrow enough", page.text(0, 0, 400), 1);
        due("their width", page.line(0, 2), 400);
        FontMaker.feed(page, "a-a-");
        due("none is narrow enough: as few as it can", page.text(0, 0, 399), 2);
        due("the few", page.line(0, 2), 1200);
    }

    private static void line() {
        GlyphPage page = written("a a\na", 800);
        int[][] lines = {{0, 2, 700}, {2, 3, 700}, {4, 5, 700}};
        for (int k = 0; k < 3; k++) {
            for (int what = 0; what < 3; what++) {
                due("line(" + k + ", " + what + ")", page.line(k, what), lines[k][what]);
            }
        }
        for (int k : new int[] {3, -1, MIN, MAX}) {
            due("line(" + k + ", 0)", page.line(k, 0), GlyphPage.NONE);
            due("line(" + k + ", 3)", page.line(k, 3), GlyphPage.REFUSED);
        }
        due("line(0, -1)", page.line(0, -1), GlyphPage.REFUSED);
        page.size(32);
        FontMaker other = FontMaker.plain();
        other.advances.set(1, 5);
        other.load(page);
        due("the lines stay as they were", page.line(0, 2), 700);
        GlyphPage fresh = new GlyphPage(4, 4);
        due("line(0, 3) without a text", fresh.line(0, 3), GlyphPage.REFUSED);
        due("line(0, 0) without a text", fresh.line(0, 0), GlyphPage.NONE);
    }

    private static void pixelsAndRows() {
        GlyphPage page = plainPage(12, 12);
        page.stamp(1, 64, 704);
        for (int j = -1; j <= 12; j++) {
            boolean inside = j >= 1 && j <= 10;
            due("row(" + j + ")", page.row(j), inside ? 2046 : 0);
            for (int i = -1; i <= 12; i++) {
                boolean none = i < 0 || i == 12 || j < 0 || j == 12;
                int set = inside && i >= 1 && i <= 10 ? 1 : 0;
                due("pixel(" + i + ", " + j + ")", page.pixel(i, j), none ? GlyphPage.NONE : set);
            }
        }
        due("pixel(MIN, MAX)", page.pixel(MIN, MAX), GlyphPage.NONE);
        due("row(MIN)", page.row(MIN), 0);
        due("row(MAX)", page.row(MAX), 0);
        due("inked", page.inked(), 100);
    }

    private static void clear() {
        GlyphPage page = plainPage(64, 64);
        due("clear of an empty page", page.clear(), 0);
        page.stamp(1, 0, 640);
        FontMaker.feed(page, "a");
        due("clear", page.clear(), 100);
        due("inked", page.inked(), 0);
        due("clear again", page.clear(), 0);
        due("the tape stays", page.end(1), 1);
        due("the font stays", page.stamp(1, 0, 640), 100);
    }
}
