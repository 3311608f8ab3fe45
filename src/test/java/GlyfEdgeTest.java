/** Rule 8 of promise 4, and promises 8 and 9: what a glyph is made of. */
public final class GlyfEdgeTest extends Edges {
    private static final int NO_POINT = 100000;
    /** Flags of a point on the curve that has no bytes for x and y. */
    private static final int STILL = 1 + 16 + 32;

    public static void main(String[] args) {
        glyphLength();
        contourCount();
        lastPoints();
        passedOver();
        flagsAgain();
        flagsBehindTheLast();
        steps();
        stepBytes();
        simpleCoordinates();
        onOrNot();
        partFlags();
        partGlyphs();
        partOffsets();
        partScales();
        roundedSums();
        moreParts();
        partBytes();
        depths();
        limits();
        limitsWithParts();
        partCoordinates();
        afterFaults();
        looks();
        lastGlyph();
        points();
        CHECK.finish();
    }

    /** The plain font with one more glyph, 2; FORM 1, so that its bytes may be odd. */
    private static FontMaker with(byte... glyph) {
        FontMaker maker = FontMaker.plain();
        maker.form = 1;
        maker.add(glyph, 100);
        return maker;
    }

    private static void judgedGlyph(String what, byte[] glyph, int fault) {
        judged(what, with(glyph), fault);
    }

    private static void duePoint(GlyphPage page, int g, int k, int... want) {
        for (int what = 0; what < want.length; what++) {
            due("point(" + g + ", " + k + ", " + what + ")", page.point(g, k, what), want[what]);
        }
    }

    private static FontMaker.Bytes header(int contours) {
        return bytes().two(contours).zeros(8);
    }

    private static void glyphLength() {
        sentence("each glyph has no bytes (an empty one), or 10 or more");
        judgedGlyph("no bytes", new byte[0], GOOD);
        for (int n = 1; n <= 9; n++) {
            judgedGlyph(n + " bytes", new byte[n], GLYF);
        }
        sentence("All lie in their bytes");
        judgedGlyph("10 bytes, no contour: what is to be passed over is missing", new byte[10], GLYF);
        judgedGlyph("11 bytes, no contour", new byte[11], GLYF);
        judgedGlyph("12 bytes, no contour", new byte[12], GOOD);
        judgedGlyph("13 bytes, no contour", new byte[13], GOOD);
        GlyphPage page = loaded(with(new byte[12]));
        due("contours of 12 zeros", page.look(2, 1), 0);
        due("points of 12 zeros", page.look(2, 2), 0);
        // The bytes of the next glyph are not those of this one.
        FontMaker two = with(cut(FontMaker.plain().glyphs.get(1), 30));
        two.add(new byte[40], 0);
        judged("a glyph that would go on in the next", two, GLYF);
    }

    private static void contourCount() {
        sentence("2 (signed): how many CONTOURS, 0 to 16, or -1: COMPOSITE");
        for (int n : new int[] {0, 1, 2, 15, 16}) {
            judgedGlyph(n + " contours", dots(n), GOOD);
            due("contours", loaded(with(dots(n))).look(2, 1), n);
            due("points", loaded(with(dots(n))).look(2, 2), n);
        }
        judgedGlyph("17 contours", dots(17), GLYF);
        judgedGlyph("18 contours", dots(18), GLYF);
        for (int n : new int[] {-2, -3, -32768, 32767, 256, -256, 255}) {
            judgedGlyph(n + " contours", put(dots(16), 0, n), GLYF);
        }
        judgedGlyph("-1 of one part", FontMaker.composite(1, 0, 0), GOOD);
        judgedGlyph("-2 of one part", put(FontMaker.composite(1, 0, 0), 0, -2), GLYF);
    }

    private static byte[] dots(int n) {
        int[][] out = new int[n][];
        for (int i = 0; i < n; i++) {
            out[i] = new int[] {10 * i, 5, 1};
        }
        return FontMaker.simple(out);
    }

    /** Contours with these last points, and flags for as many points as the last of them tells. */
    private static byte[] ending(int... lasts) {
        FontMaker.Bytes out = header(lasts.length).two(lasts).two(0);
        for (int i = 0; i <= lasts[lasts.length - 1] && i < 400; i++) {
            out.one(STILL);
        }
        return out.done();
    }

    private static void lastPoints() {
        sentence("its last POINT, rising, below 128");
        judgedGlyph("0", ending(0), GOOD);
        judgedGlyph("1", ending(1), GOOD);
        judgedGlyph("126", ending(126), GOOD);
        judgedGlyph("127", ending(127), GOOD);
        judgedGlyph("128", ending(128), GLYF);
        judgedGlyph("256", ending(256), GLYF);
        judgedGlyph("32768", ending(32768), GLYF);
        judgedGlyph("65535", ending(65535), GLYF);
        judgedGlyph("126, 127", ending(126, 127), GOOD);
        judgedGlyph("127, 128", ending(127, 128), GLYF);
        judgedGlyph("127, 127", ending(127, 127), GLYF);
        judgedGlyph("0, 1", ending(0, 1), GOOD);
        judgedGlyph("0, 0", ending(0, 0), GLYF);
        judgedGlyph("1, 0", ending(1, 0), GLYF);
        judgedGlyph("1, 3, 3", ending(1, 3, 3), GLYF);
        judgedGlyph("1, 3, 2, 5", ending(1, 3, 2, 5), GLYF);
        judgedGlyph("1, 3, 4", ending(1, 3, 4), GOOD);
        judgedGlyph("65535, 0", ending(65535, 0), GLYF);
        GlyphPage page = loaded(with(ending(1, 3, 4)));
        int[] contours = {0, 0, 1, 1, 2, NO_POINT};
        for (int k = 0; k < contours.length; k++) {
            due("contour of point " + k, page.point(2, k, 3), contours[k]);
        }
        due("points of the greatest", loaded(with(ending(127))).look(2, 2), 128);
    }

    private static void passedOver() {
        sentence("2: how many bytes follow, which are passed over");
        for (int n : new int[] {0, 1, 2, 255, 256, 300}) {
            byte[] glyph = header(1).two(0, n).all(filled(n)).one(2 + 16 + 32, 7).done();
            judgedGlyph(n + " passed over", glyph, GOOD);
            due("x behind " + n, loaded(with(glyph)).point(2, 0, 0), 7);
            judgedGlyph(n + " passed over, but x missing", cut(glyph, glyph.length - 1), GLYF);
            judgedGlyph(n + " passed over, and one too many", put(glyph, 12, n + 1), GLYF);
        }
        judgedGlyph("32768 passed over", header(1).two(0, 32768).zeros(50).done(), GLYF);
        judgedGlyph("65535 passed over", header(1).two(0, 65535).zeros(50).done(), GLYF);
        judgedGlyph("no contour, 2 passed over", header(0).two(2).zeros(2).done(), GOOD);
        judgedGlyph("no contour, one of 2 passed over", header(0).two(2).zeros(1).done(), GLYF);
    }

    private static byte[] filled(int n) {
        byte[] out = new byte[n];
        java.util.Arrays.fill(out, (byte) 255);
        return out;
    }

    private static byte[] points(int n, int... rest) {
        return header(1).two(n - 1, 0).one(rest).done();
    }

    private static void flagsAgain() {
        sentence("FLAGS for the points: a byte; with 8 another byte, how often it stands again");
        judgedGlyph("3 bytes", points(3, STILL, STILL, STILL), GOOD);
        judgedGlyph("2 bytes for 3", points(3, STILL, STILL), GLYF);
        judgedGlyph("1 and again 2 times", points(3, STILL + 8, 2), GOOD);
        judgedGlyph("1 and again once, the third missing", points(3, STILL + 8, 1), GLYF);
        judgedGlyph("1 and again once, and 1", points(3, STILL + 8, 1, STILL), GOOD);
        judgedGlyph("again no time", points(1, STILL + 8, 0), GOOD);
        judgedGlyph("again no time, the second missing", points(2, STILL + 8, 0), GLYF);
        judgedGlyph("how often is missing", points(1, STILL + 8), GLYF);
        judgedGlyph("how often is missing at the last", points(3, STILL, STILL, STILL + 8), GLYF);
        judgedGlyph("1 and again 127 times", points(128, STILL + 8, 127), GOOD);
        judgedGlyph("1 and again 126 times for 128", points(128, STILL + 8, 126), GLYF);
        byte[] glyph = points(5, 1 + 2 + 16 + 32 + 8, 2, 2 + 16 + 4 + 32, 4 + 16 + 1 + 8, 0,
                1, 2, 3, 4, 50, 60);
        judgedGlyph("each flag with its own bytes", glyph, GOOD);
        GlyphPage page = loaded(with(glyph));
        duePoint(page, 2, 0, 1, 0, 1);
        duePoint(page, 2, 1, 3, 0, 1);
        duePoint(page, 2, 2, 6, 0, 1);
        duePoint(page, 2, 3, 10, 50, 0);
        duePoint(page, 2, 4, 10, -10, 1);
    }

    /** The flags are those for the points: none stands again behind the last one. */
    private static void flagsBehindTheLast() {
        sentence("FLAGS for the points: a byte; with 8 another byte, how often it stands again");
        for (int n : new int[] {1, 2, 3, 127, 128}) {
            for (int again : new int[] {0, Math.max(0, n - 2), n - 1, n, n + 1, 128, 254, 255}) {
                // The zeros make good flags and steps for points that are left, so only one too many is wrong.
                byte[] glyph = points(n, STILL + 8, again);
                judgedGlyph(n + " points, 1 and again " + again + " times",
                        java.util.Arrays.copyOf(glyph, glyph.length + 5 * 128), again < n ? GOOD : GLYF);
            }
        }
        judgedGlyph("the last of 3 again no time", points(3, STILL, STILL, STILL + 8, 0), GOOD);
        judgedGlyph("the last of 3 again once", points(3, STILL, STILL, STILL + 8, 1), GLYF);
        judgedGlyph("the second of 3 again once", points(3, STILL, STILL + 8, 1), GOOD);
        judgedGlyph("the second of 3 again 2 times", points(3, STILL, STILL + 8, 2), GLYF);
        judgedGlyph("two that stand again, 4 for 4", points(4, STILL + 8, 1, STILL + 8, 1), GOOD);
        judgedGlyph("two that stand again, 5 for 4", points(4, STILL + 8, 1, STILL + 8, 2), GLYF);
        judgedGlyph("from one contour into the next", header(2).two(0, 2, 0).one(STILL + 8, 2).done(), GOOD);
        judgedGlyph("behind the last contour", header(2).two(0, 2, 0).one(STILL + 8, 3).done(), GLYF);
        judgedGlyph("no point, and a byte that is no flag", header(0).two(0).one(STILL + 8, 3).done(), GOOD);
        // The bytes of steps for the points that there are: also then one flag is too many.
        judgedGlyph("one of 2 bytes each", points(1, 1 + 8, 0, 0, 7, 0, 9), GOOD);
        judgedGlyph("one of 2 bytes each, again once", points(1, 1 + 8, 1, 0, 7, 0, 9, 0, 0, 0, 0), GLYF);
        FontMaker part = with(points(1, STILL + 8, 1));
        part.add(FontMaker.composite(2, 0, 0), 0);
        judged("as a part", part, GLYF);
        GlyphPage page = loaded(with(points(2, STILL + 8, 1)));
        due("the next file", with(points(2, STILL + 8, 2)).load(page), GLYF);
        due("the font stays", page.look(2, 2), 2);
        due("the file after it", with(points(3, STILL + 8, 2)).load(page), GOOD);
        due("its points", page.look(2, 2), 3);
    }

    /** One point, with these flags and these bytes: where it is. */
    private static void dueStep(int flags, int x, int y, int... rest) {
        FontMaker maker = with(points(1, rest.length == 0 ? new int[] {flags} : joined(flags, rest)));
        GlyphPage page = loaded(maker);
        duePoint(page, 2, 0, x, y, flags & 1);
    }

    private static int[] joined(int first, int... rest) {
        int[] out = new int[rest.length + 1];
        out[0] = first;
        System.arraycopy(rest, 0, out, 1, rest.length);
        return out;
    }

    private static void steps() {
        sentence("x: with 2 a byte, positive with 16, else negative; without 2: none with 16, else 2 "
                + "bytes (signed)");
        for (int v : new int[] {0, 1, 127, 128, 255}) {
            dueStep(2 + 16 + 32, v, 0, v);
            dueStep(2 + 32, -v, 0, v);
        }
        dueStep(16 + 32, 0, 0);
        for (int v : new int[] {0, 1, -1, 255, 256, 32767, -32768}) {
            dueStep(32, v, 0, v >> 8, v);
        }
        sentence("y: likewise with 4 and 32");
        for (int v : new int[] {0, 1, 127, 128, 255}) {
            dueStep(4 + 32 + 16, 0, v, v);
            dueStep(4 + 16, 0, -v, v);
        }
        for (int v : new int[] {0, 1, -1, 255, 256, 32767, -32768}) {
            dueStep(16, 0, v, v >> 8, v);
        }
        sentence("then all x, then all y, each as told from the one before (from 0)");
        byte[] glyph = points(3, 0, 1, 0, 0, 100, 0, 20, 255, 251, 0, 7, 255, 249, 1, 0);
        GlyphPage page = loaded(with(glyph));
        duePoint(page, 2, 0, 100, 7, 0);
        duePoint(page, 2, 1, 120, 0, 1);
        duePoint(page, 2, 2, 115, 256, 0);
        dueStep(64 + 128 + 16 + 32, 0, 0);
    }

    /** Each glyph with its last byte, and without. */
    private static void stepBytes() {
        sentence("All lie in their bytes");
        int[][] glyphs = {{16 + 32 + 2, 9}, {32 + 2, 9}, {32, 0, 9}, {16 + 32 + 4, 9}, {16 + 4, 9},
            {16, 0, 9}, {0, 0, 9, 0, 9}, {2 + 4, 9, 9}, {2, 9, 0, 9}, {4, 0, 9, 9}, {STILL}};
        for (int[] rest : glyphs) {
            byte[] glyph = points(1, rest);
            judgedGlyph("flags " + rest[0], glyph, GOOD);
            judgedGlyph("flags " + rest[0] + ", a byte missing", cut(glyph, glyph.length - 1), GLYF);
            judgedGlyph("flags " + rest[0] + ", a byte more", cut(glyph, glyph.length + 1), GOOD);
        }
        byte[] square = FontMaker.plain().glyphs.get(1);
        for (int n = 10; n < square.length; n++) {
            judgedGlyph("the first " + n + " bytes of the square", cut(square, n), GLYF);
        }
    }

    private static void simpleCoordinates() {
        sentence("each coordinate, in each glyph and part, is -32768 to 32767");
        int[][] values = {{32766, GOOD}, {32767, GOOD}, {32768, GLYF}, {-32767, GOOD}, {-32768, GOOD},
            {-32769, GLYF}};
        for (int[] v : values) {
            int half = v[0] / 2;
            judgedGlyph("x " + v[0], FontMaker.simple(new int[][] {{half, 0, 1, v[0], 0, 1}}), v[1]);
            judgedGlyph("y " + v[0], FontMaker.simple(new int[][] {{0, half, 1, 0, v[0], 0}}), v[1]);
            judgedGlyph("x " + v[0] + " and back",
                    FontMaker.simple(new int[][] {{half, 0, 1, v[0], 0, 1, half, 0, 1}}), v[1]);
            judgedGlyph("y " + v[0] + " in another contour",
                    FontMaker.simple(new int[][] {{0, half, 1}, {0, v[0], 0}, {0, half, 1}}), v[1]);
        }
        GlyphPage page = loaded(with(FontMaker.simple(new int[][] {{32767, -32768, 1}})));
        duePoint(page, 2, 0, 32767, -32768, 1, 0);
    }

    private static void onOrNot() {
        sentence("A point is ON with 1.");
        for (int flags : new int[] {STILL, STILL - 1, STILL + 64, STILL - 1 + 192, STILL + 128}) {
            dueStep(flags, 0, 0);
        }
    }

    private static byte[] part(int flags, int... rest) {
        return header(-1).two(flags).two(rest).done();
    }

    private static void partFlags() {
        sentence("PARTS: 2 bytes FLAGS, with 2");
        judgedGlyph("flags 3", part(3, 1, 0, 0), GOOD);
        judgedGlyph("flags 1", part(1, 1, 0, 0), GLYF);
        judgedGlyph("flags 2", part(2, 1, 0), GOOD);
        judgedGlyph("flags 0", part(0, 1, 0), GLYF);
        judgedGlyph("all flags but 2, 8, 32, 64 and 128", part(0xFF15, 1, 0, 0), GLYF);
        judgedGlyph("all flags but 8, 32, 64 and 128", part(0xFF17, 1, 0, 0), GOOD);
        judgedGlyph("a second part without 2", header(-1).two(35, 1, 0, 0).two(1, 1, 0, 0).done(), GLYF);
    }

    private static void partGlyphs() {
        sentence("2: a glyph below GLYPHS");
        judgedGlyph("glyph 1 of 3", part(3, 1, 0, 0), GOOD);
        judgedGlyph("glyph 3 of 3", part(3, 3, 0, 0), GLYF);
        judgedGlyph("glyph 256 of 3", part(3, 256, 0, 0), GLYF);
        judgedGlyph("glyph 32768 of 3", part(3, 32768, 0, 0), GLYF);
        judgedGlyph("glyph 65535 of 3", part(3, 65535, 0, 0), GLYF);
        FontMaker four = with(part(3, 3, 0, 0));
        four.add(new byte[0], 0);
        judged("glyph 3 of 4, an empty one", four, GOOD);
        FontMaker most = with(part(3, 63, 0, 0));
        while (most.glyphs.size() < 64) {
            most.add(new byte[0], 0);
        }
        judged("glyph 63 of 64", most, GOOD);
        most.glyphs.set(2, part(3, 64, 0, 0));
        judged("glyph 64 of 64", most, GLYF);
    }

    private static void duePart(FontMaker maker, byte[] composite, int... want) {
        maker.glyphs.add(composite);
        maker.advances.add(0);
        GlyphPage page = loaded(maker);
        int g = maker.glyphs.size() - 1;
        for (int k = 0; k < want.length / 2; k++) {
            duePoint(page, g, k, want[2 * k], want[2 * k + 1]);
        }
        maker.glyphs.remove(g);
        maker.advances.remove(g);
    }

    private static FontMaker withPoint(int x, int y) {
        return with(FontMaker.simple(new int[][] {{x, y, 1}}));
    }

    private static void partOffsets() {
        sentence("dx, dy: 2 bytes each (signed) with 1, else one (signed)");
        FontMaker zero = withPoint(0, 0);
        for (int v : new int[] {0, 1, -1, 127, 128, -128, -129, 32767, -32768}) {
            duePart(zero, part(3, 2, v, 9), v, 9);
            duePart(zero, part(3, 2, 9, v), 9, v);
        }
        for (int v : new int[] {0, 1, -1, 127, -128}) {
            duePart(zero, header(-1).two(2, 2).one(v, 9).done(), v, 9);
            duePart(zero, header(-1).two(2, 2).one(9, v).done(), 9, v);
        }
        sentence("+ (dx, dy)");
        duePart(withPoint(5, 7), part(3 + 8, 2, 100, 200, 8192), 103, 204);
    }

    private static void partScales() {
        sentence("with 8 a = d; else with 64 a, d; else with 128 a, b, c, d (what is not told: a, d 1, "
                + "b, c 0)");
        FontMaker maker = withPoint(300, 700);
        duePart(maker, part(3, 2, 0, 0), 300, 700);
        duePart(maker, part(3 + 8, 2, 0, 0, 16384), 300, 700);
        duePart(maker, part(3 + 8, 2, 0, 0, -16384), -300, -700);
        duePart(maker, part(3 + 8, 2, 0, 0, -32768), -600, -1400);
        duePart(maker, part(3 + 8, 2, 0, 0, 32767), 600, 1400);
        duePart(maker, part(3 + 8, 2, 0, 0, 0), 0, 0);
        duePart(maker, part(3 + 64, 2, 0, 0, 8192, 4096), 150, 175);
        duePart(maker, part(3 + 128, 2, 0, 0, 16384, 0, 0, 16384), 300, 700);
        duePart(maker, part(3 + 128, 2, 0, 0, 0, 16384, 0, 0), 0, 300);
        duePart(maker, part(3 + 128, 2, 0, 0, 0, 0, 16384, 0), 700, 0);
        duePart(maker, part(3 + 128, 2, 0, 0, 8192, -16384, 4096, -8192), 325, -650);
        duePart(maker, part(3 + 8 + 64, 2, 0, 0, 8192, 4096), 150, 350);
        duePart(maker, part(3 + 8 + 128, 2, 0, 0, 8192), 150, 350);
        duePart(maker, part(3 + 64 + 128, 2, 0, 0, 8192, 4096), 150, 175);
        duePart(maker, part(3 + 8 + 64 + 128, 2, 0, 0, 8192), 150, 350);
        // What one part is told of is not told of the next.
        duePart(maker, header(-1).two(3 + 128 + 32, 2, 5, 6, 0, 16384, 16384, 0).two(3, 2, 0, 0).done(),
                705, 306, 300, 700);
        duePart(maker, header(-1).two(3 + 128 + 32, 2, 5, 6, 0, 16384, 16384, 0)
                .two(3 + 8, 2, 0, 0, 8192).done(), 705, 306, 150, 350);
        duePart(maker, header(-1).two(3 + 8 + 32, 2, 5, 5, 0).two(3 + 64, 2, 0, 0, 16384, 16384).done(),
                5, 5, 300, 700);
    }

    private static void roundedSums() {
        sentence("each of these sums rounded (+ 8192, then without the last 14 bits)");
        FontMaker one = withPoint(1, -1);
        int[][] halves = {{8191, 0, 0}, {8192, 1, 0}, {8193, 1, -1}, {-8191, 0, 0}, {-8192, 0, 1},
            {-8193, -1, 1}, {24575, 1, -1}, {24576, 2, -1}, {24577, 2, -2}};
        for (int[] h : halves) {
            duePart(one, part(3 + 8, 2, 0, 0, h[0]), h[1], h[2]);
        }
        // The sum is rounded, not what it is made of, and the offset comes behind.
        FontMaker both = withPoint(1, 1);
        duePart(both, part(3 + 128, 2, 0, 0, 4096, 4096, 4096, 4095), 1, 0);
        duePart(both, part(3 + 128, 2, 7, 7, 4096, -4096, 4096, -4096), 8, 7);
        duePart(both, part(3 + 128, 2, 0, 0, 8192, -8192, 8192, -8192), 1, -1);
        // A part in a part is rounded in each of them.
        FontMaker inner = withPoint(1, -1);
        inner.add(part(3 + 8, 2, 0, 0, 8192), 0);
        duePart(inner, part(3 + 8, 3, 0, 0, 8192), 1, 0);
        sentence("each of these sums");
        FontMaker far = withPoint(-32768, -32768);
        duePart(far, part(3 + 128, 2, -32768, 0, -16383, -32768, -16384, 32767), 32766, 2);
        FontMaker wide = withPoint(32767, 32767);
        duePart(wide, part(3 + 128, 2, 0, 0, 32767, -32768, -32768, 32767), -2, -2);
    }

    private static void moreParts() {
        sentence("another one follows with 32");
        judgedGlyph("one", part(3, 1, 0, 0), GOOD);
        judgedGlyph("one, but another is told", part(35, 1, 0, 0), GLYF);
        byte[] two = FontMaker.composite(1, 0, 0, 1, 5, 5);
        judgedGlyph("two", two, GOOD);
        due("points of two", loaded(with(two)).look(2, 2), 8);
        byte[] oneTold = put(two, 10, 3);
        judgedGlyph("two, one is told of", oneTold, GOOD);
        due("points of one", loaded(with(oneTold)).look(2, 2), 4);
        byte[] third = put(two, 18, 35);
        judgedGlyph("two, a third is told", third, GLYF);
        sentence("Its contours are those of its parts, in order");
        FontMaker maker = with(FontMaker.simple(new int[][] {{1, 2, 1}, {3, 4, 0}}));
        maker.add(FontMaker.composite(2, 0, 0, 0, 0, 0, 1, 0, 0, 2, 10, 20), 0);
        GlyphPage page = loaded(maker);
        due("contours", page.look(3, 1), 5);
        due("points", page.look(3, 2), 8);
        duePoint(page, 3, 0, 1, 2, 1, 0);
        duePoint(page, 3, 1, 3, 4, 0, 1);
        duePoint(page, 3, 2, 0, 0, 1, 2);
        duePoint(page, 3, 5, 640, 0, 1, 2);
        duePoint(page, 3, 6, 11, 22, 1, 3);
        duePoint(page, 3, 7, 13, 24, 0, 4);
    }

    /** Each kind of part with all its bytes, without the last, and with one more. */
    private static void partBytes() {
        sentence("All lie in their bytes");
        byte[][] kinds = {part(3, 1, 0, 0), part(2, 1, 0), part(3 + 8, 1, 0, 0, 9),
            part(3 + 64, 1, 0, 0, 9, 9), part(3 + 128, 1, 0, 0, 9, 9, 9, 9), part(2 + 8, 1, 0, 9),
            FontMaker.composite(1, 0, 0, 1, 1, 1)};
        for (int i = 0; i < kinds.length; i++) {
            judgedGlyph("kind " + i, kinds[i], GOOD);
            judgedGlyph("kind " + i + ", a byte more", cut(kinds[i], kinds[i].length + 1), GOOD);
            for (int n = 10; n < kinds[i].length; n++) {
                judgedGlyph("kind " + i + ", its first " + n + " bytes", cut(kinds[i], n), GLYF);
            }
        }
    }

    /** A glyph of parts in parts: glyph 2 is the inmost, each next one has the one before as a part. */
    private static FontMaker chain(int depth, byte[] inmost) {
        FontMaker maker = with(inmost);
        for (int i = 0; i < depth; i++) {
            maker.add(FontMaker.composite(0, 0, 0, 2 + i, 1, 1), 0);
        }
        return maker;
    }

    /** Each glyph has the next one as a part, the last is the inmost. */
    private static FontMaker outmostFirst(int depth, byte[] inmost) {
        FontMaker maker = new FontMaker();
        maker.form = 1;
        maker.segments.add(new int[] {65535, 65535, 1, 0});
        for (int i = 1; i <= depth; i++) {
            maker.add(FontMaker.composite(i, 0, 0), 0);
        }
        maker.add(inmost, 0);
        return maker;
    }

    private static void depths() {
        sentence("Parts lie in parts at most 4 deep (those of simple glyphs 0).");
        byte[][] inmosts = {FontMaker.plain().glyphs.get(1), new byte[0], new byte[12]};
        for (int i = 0; i < inmosts.length; i++) {
            for (int depth = 0; depth <= 6; depth++) {
                judged(depth + " deep, inmost " + i, chain(depth, inmosts[i]), depth > 4 ? GLYF : GOOD);
            }
        }
        GlyphPage page = loaded(chain(4, inmosts[0]));
        duePoint(page, 6, 0, 4, 4, 1, 0);
        due("points", page.look(6, 2), 4);
        judged("4 deep, the outmost first", outmostFirst(4, inmosts[0]), GOOD);
        judged("5 deep, the outmost first", outmostFirst(5, inmosts[0]), GLYF);
        judgedGlyph("a part of itself", FontMaker.composite(2, 0, 0), GLYF);
        FontMaker ring = with(FontMaker.composite(3, 0, 0));
        ring.add(FontMaker.composite(2, 0, 0), 0);
        judged("two that are parts of each other", ring, GLYF);
        FontMaker sides = chain(3, inmosts[0]);
        sides.add(FontMaker.composite(5, 0, 0, 5, 1, 1, 4, 2, 2, 1, 3, 3), 0);
        judged("4 deep in more than one part", sides, GOOD);
        sides.add(FontMaker.composite(1, 0, 0, 0, 0, 0, 6, 0, 0), 0);
        judged("5 deep in the last part", sides, GLYF);
    }

    private static int[] times(int n, int glyph) {
        int[] out = new int[3 * n];
        for (int i = 0; i < n; i++) {
            out[3 * i] = glyph;
        }
        return out;
    }

    private static void limits() {
        sentence("a glyph has at most 256 points, 32 contours and 40 parts (with those in parts) in all");
        for (int more = -1; more <= 1; more++) {
            FontMaker points = with(points(127 + more, STILL + 8, 126 + more));
            points.add(points(128, STILL + 8, 127), 0);
            points.add(points(1, STILL), 0);
            points.add(FontMaker.composite(4, 0, 0, 2, 0, 0, 3, 0, 0), 0);
            judged(256 + more + " points", points, more > 0 ? GLYF : GOOD);
            points.glyphs.set(5, FontMaker.composite(3, 0, 0, 2, 0, 0, 4, 0, 0));
            judged(256 + more + " points, one at last", points, more > 0 ? GLYF : GOOD);
            FontMaker contours = with(dots(15 + more));
            contours.add(dots(16), 0);
            contours.add(dots(1), 0);
            contours.add(FontMaker.composite(4, 0, 0, 2, 0, 0, 3, 0, 0), 0);
            judged(32 + more + " contours", contours, more > 0 ? GLYF : GOOD);
            contours.glyphs.set(5, FontMaker.composite(3, 0, 0, 2, 0, 0, 4, 0, 0));
            judged(32 + more + " contours, one at last", contours, more > 0 ? GLYF : GOOD);
            for (int g : new int[] {0, 3}) {
                FontMaker parts = with(FontMaker.composite(times(40 + more, g)));
                parts.add(new byte[12], 0);
                judged(40 + more + " parts of glyph " + g, parts, more > 0 ? GLYF : GOOD);
            }
        }
        GlyphPage page = loaded(greatest());
        due("points", page.look(5, 2), 256);
        due("contours", page.look(5, 1), 32);
        duePoint(page, 5, 255, 5, 6, 1, 31);
        duePoint(page, 5, 256, NO_POINT, NO_POINT, NO_POINT, NO_POINT);
    }

    /** A glyph, 5, of 256 points, 32 contours and 40 parts. */
    private static FontMaker greatest() {
        int[] lasts = new int[16];
        for (int i = 0; i < 15; i++) {
            lasts[i] = i;
        }
        lasts[15] = 127;
        FontMaker maker = with(header(16).two(lasts).two(0).one(STILL + 8, 127).done());
        maker.add(FontMaker.composite(times(18, 0)), 0);
        maker.add(FontMaker.composite(times(17, 0)), 0);
        maker.add(FontMaker.composite(2, 0, 0, 3, 0, 0, 4, 0, 0, 0, 0, 0, 2, 5, 6), 0);
        return maker;
    }

    private static void limitsWithParts() {
        sentence("40 parts (with those in parts)");
        FontMaker maker = with(FontMaker.composite(times(19, 0)));
        maker.add(FontMaker.composite(2, 0, 0, 2, 0, 0), 0);
        judged("2 parts of 19 parts each", maker, GOOD);
        maker.glyphs.set(3, FontMaker.composite(2, 0, 0, 2, 0, 0, 0, 0, 0));
        judged("2 parts of 19 parts each, and one", maker, GLYF);
        maker.glyphs.set(3, FontMaker.composite(0, 0, 0, 2, 0, 0, 2, 0, 0));
        judged("one, and 2 parts of 19 parts each", maker, GLYF);
        FontMaker deep = with(FontMaker.composite(times(37, 1)));
        deep.glyphs.set(1, new byte[12]);
        deep.add(FontMaker.composite(2, 0, 0), 0);
        deep.add(FontMaker.composite(3, 0, 0), 0);
        deep.add(FontMaker.composite(4, 0, 0), 0);
        judged("37 parts in 1 in 1 in 1", deep, GOOD);
        deep.glyphs.set(2, FontMaker.composite(times(38, 1)));
        judged("38 parts in 1 in 1 in 1", deep, GLYF);
        FontMaker again = with(FontMaker.composite(times(40, 0)));
        again.add(FontMaker.composite(times(40, 0)), 0);
        judged("two glyphs of 40 parts each", again, GOOD);
    }

    private static void partCoordinates() {
        sentence("each coordinate, in each glyph and part, is -32768 to 32767");
        int[][] moves = {{32766, 0, GOOD}, {32767, 1, GLYF}, {32767, 0, GOOD}, {32766, 1, GOOD},
            {32766, 2, GLYF}, {-32767, -1, GOOD}, {-32768, 0, GOOD}, {-32768, -1, GLYF},
            {-32767, -2, GLYF}};
        for (int[] m : moves) {
            FontMaker maker = withPoint(m[0], m[0]);
            maker.add(FontMaker.composite(2, m[1], 0), 0);
            judged("x " + m[0] + " moved by " + m[1], maker, m[2]);
            maker.glyphs.set(3, FontMaker.composite(2, 0, m[1]));
            judged("y " + m[0] + " moved by " + m[1], maker, m[2]);
            maker.glyphs.set(3, FontMaker.composite(1, 0, 0, 2, 0, m[1], 1, 0, 0));
            judged("y " + m[0] + " of a middle part moved by " + m[1], maker, m[2]);
        }
        FontMaker twice = withPoint(16384, -16384);
        twice.add(part(3 + 64, 2, 0, 0, -32768, 16384), 0);
        judged("x twice as far to the left", twice, GOOD);
        twice.glyphs.set(3, part(3 + 64, 2, -1, 0, -32768, 16384));
        judged("x twice as far to the left and one more", twice, GLYF);
        twice.glyphs.set(3, part(3 + 64, 2, 0, 0, 16384, -32768));
        judged("y at 32768", twice, GLYF);
        twice.glyphs.set(3, part(3 + 64, 2, 0, -1, 16384, -32768));
        judged("y at 32768, moved back by one", twice, GOOD);
        FontMaker wraps = withPoint(-32768, -32768);
        wraps.add(part(3 + 128, 2, -32768, 0, -32768, 0, -32768, 0), 0);
        judged("x at 131072 - 32768", wraps, GLYF);
    }

    /** What was wrong with one file does not stand against the next. */
    private static void afterFaults() {
        sentence("The TAPE as a file becomes the FONT: 0; or its FAULT");
        byte[] square = FontMaker.plain().glyphs.get(1);
        FontMaker[] bad = {with(cut(square, square.length - 1)), with(new byte[10]), with(new byte[9]),
            with(part(3, 1)), chain(5, square), with(FontMaker.composite(times(41, 0))),
            with(FontMaker.composite(2, 0, 0)), with(dots(17))};
        for (int i = 0; i < bad.length; i++) {
            GlyphPage page = new GlyphPage(8, 8);
            due("bad file " + i, bad[i].load(page), GLYF);
            due("a good file behind it", chain(4, square).load(page), GOOD);
            duePoint(page, 6, 2, 644, 644, 1, 0);
            due("another good file behind it", greatest().load(page), GOOD);
            due("its points", page.look(5, 2), 256);
        }
        FontMaker inParts = outmostFirst(4, cut(square, square.length - 1));
        GlyphPage page = new GlyphPage(8, 8);
        due("a bad glyph that is met as a part first", inParts.load(page), GLYF);
        due("a good file behind it", chain(4, square).load(page), GOOD);
    }

    private static void looks() {
        sentence("what 0: ADVANCE, 1: contours, 2: points. NONE if there is none; REFUSED for another "
                + "what, first.");
        GlyphPage none = new GlyphPage(8, 8);
        GlyphPage page = loaded(with(FontMaker.composite(1, 0, 0, 1, 0, 0)));
        int[][] want = {{500, 0, 0}, {700, 1, 4}, {100, 2, 8}};
        for (int g : new int[] {MIN, -1, 0, 1, 2, 3, 4, 65536, MAX}) {
            for (int what : new int[] {MIN, -1, 0, 1, 2, 3, MAX}) {
                boolean other = what < 0 || what > 2;
                int due = other ? REFUSED : g < 0 || g > 2 ? NONE : want[g][what];
                due("look(" + g + ", " + what + ")", page.look(g, what), due);
                due("look(" + g + ", " + what + ") without a font", none.look(g, what),
                        other ? REFUSED : NONE);
            }
        }
    }

    private static void lastGlyph() {
        sentence("NONE if there is none");
        FontMaker maker = with(dots(2));
        while (maker.glyphs.size() < 63) {
            maker.add(new byte[0], 5);
        }
        maker.add(dots(3), 6);
        GlyphPage page = loaded(maker);
        for (int what = 0; what < 3; what++) {
            due("look(63, " + what + ")", page.look(63, what), what == 0 ? 6 : 3);
            due("look(64, " + what + ")", page.look(64, what), NONE);
            due("look(65, " + what + ")", page.look(65, what), NONE);
        }
        duePoint(page, 63, 2, 20, 5, 1, 2);
        duePoint(page, 64, 0, NO_POINT, NO_POINT, NO_POINT, NO_POINT);
        due("winding(63, 20, -5)", page.winding(63, 20, -5), 1000);
        due("winding(64, 20, -5)", page.winding(64, 20, -5), 2000);
        due("stamp(63, 12, 37)", page.stamp(63, 12, 37), 1);
        due("stamp(64, 12, 37)", page.stamp(64, 12, 37), NONE);
    }

    private static void points() {
        sentence("100000 if there is none; REFUSED for another what, first.");
        GlyphPage none = new GlyphPage(8, 8);
        GlyphPage page = loaded(with(FontMaker.simple(new int[][] {{5, 6, 1, 7, 8, 0}, {9, 10, 1}})));
        int[][] want = {{5, 6, 1, 0}, {7, 8, 0, 0}, {9, 10, 1, 1}};
        for (int what : new int[] {MIN, -1, 0, 1, 2, 3, 4, MAX}) {
            boolean other = what < 0 || what > 3;
            for (int k : new int[] {MIN, -1, 0, 1, 2, 3, 128, 256, 65536, MAX}) {
                int due = other ? REFUSED : k < 0 || k > 2 ? NO_POINT : want[k][what];
                due("point(2, " + k + ", " + what + ")", page.point(2, k, what), due);
            }
            for (int g : new int[] {MIN, -1, 0, 3, 64, 65536 + 2, MAX}) {
                due("point(" + g + ", 0, " + what + ")", page.point(g, 0, what),
                        other ? REFUSED : NO_POINT);
                due("point(" + g + ", 0, " + what + ") without a font", none.point(g, 0, what),
                        other ? REFUSED : NO_POINT);
            }
        }
    }
}
