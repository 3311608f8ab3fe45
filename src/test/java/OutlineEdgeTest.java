/** SIZE, OUTLINE, CONTOUR, WINDING and THE PAGE, by promises 11 and 12. */
public final class OutlineEdgeTest extends Edges {
    private static final int ON_CURVE = 1000, NO_WINDING = 2000;

    public static void main(String[] args) {
        halves();
        smallestAndGreatestSize();
        sizeOfTheTime();
        outlinePlace();
        middles();
        lines();
        bends();
        bendsBehindTheirEnds();
        halfMiddles();
        noneOn();
        singlePoints();
        twoPoints();
        closings();
        contoursApart();
        turns();
        manyTurns();
        levelWithPoints();
        inOrOn();
        everyColumn();
        everyColumnOfBends();
        oneBehindAnother();
        mostPoints();
        centres();
        windingPlaces();
        windingOutlines();
        windingGlyphs();
        stampPlaces();
        stampOutlines();
        stampGlyphs();
        stampCounts();
        CHECK.finish();
    }

    /** A font where a unit is a 64th, with this glyph as 2. */
    private static FontMaker with(int[]... contours) {
        FontMaker maker = FontMaker.plain();
        maker.add(FontMaker.simple(contours), 0);
        return maker;
    }

    /** Places of the page, each x, y and its winding. */
    private static void dueWindings(String what, GlyphPage page, int... places) {
        for (int i = 0; i < places.length; i += 3) {
            due(what + ": winding(2, " + places[i] + ", " + places[i + 1] + ")",
                    page.winding(2, places[i], places[i + 1]), places[i + 2]);
        }
    }

    private static void dueDot(String what, GlyphPage page, int x, int y) {
        dueWindings(what, page, x, y, ON_CURVE, x - 1, y, 0, x + 1, y, 0, x, y - 1, 0, x, y + 1, 0);
    }

    private static void halves() {
        sentence("v units are (128 n v + UNITS) / (2 UNITS) 64ths of a pixel, rounded down");
        int[][] cases = {{2047, 1, 1}, {2048, 1, 1}, {2049, 1, 0}, {2047, -1, -1}, {2048, -1, 0},
            {2049, -1, 0}, {2047, 3, 2}, {2048, 3, 2}, {2049, 3, 1}, {2047, -3, -2}, {2048, -3, -1},
            {2049, -3, -1}, {1024, 5, 5}, {1024, -5, -5}, {2048, 0, 0}};
        for (int[] c : cases) {
            FontMaker maker = with(new int[] {c[1], 0, 1});
            maker.units = c[0];
            dueDot(c[1] + " units of " + c[0], loaded(maker), c[2], 0);
            maker.glyphs.set(2, FontMaker.simple(new int[][] {{0, c[1], 1}}));
            dueDot(c[1] + " units of " + c[0] + " up", loaded(maker), 0, -c[2]);
        }
    }

    private static void smallestAndGreatestSize() {
        sentence("SIZE n (pixels for UNITS, 16 at first)");
        int[][] cases = {{16, 4, 1, 16}, {16, 64, 1, 256}, {16, 64, -78, -19968}, {16384, 4, 32, 1},
            {16384, 4, 31, 0}, {16384, 4, 33, 1}, {16384, 64, 2, 1}, {16384, 64, 1, 0},
            {16384, 64, -2, 0}, {16384, 64, -3, -1}, {16384, 64, 32767, 8192},
            {16384, 64, -32768, -8192}, {16384, 5, 32767, 640}, {1000, 63, -777, -3133}};
        for (int[] c : cases) {
            FontMaker maker = with(new int[] {c[2], 0, 0});
            maker.units = c[0];
            maker.ascent = 0;
            maker.descent = 0;
            maker.gap = 0;
            maker.advances.set(0, 0);
            maker.advances.set(1, 0);
            GlyphPage page = loaded(maker);
            page.size(c[1]);
            dueDot(c[2] + " units of " + c[0] + " in size " + c[1], page, c[3], 0);
        }
    }

    private static void sizeOfTheTime() {
        sentence("SIZE becomes n");
        GlyphPage page = loaded(with(new int[] {100, 200, 1}));
        dueDot("size 16", page, 100, -200);
        page.size(32);
        dueDot("size 32", page, 200, -400);
        page.size(65);
        dueDot("size 65 is refused", page, 200, -400);
        page.size(4);
        dueDot("size 4", page, 25, -50);
    }

    private static void outlinePlace() {
        sentence("OUTLINE of a glyph at (X, Y), 64ths: each point at (X + x, Y - y), x and y so taken");
        GlyphPage page = loaded(with(new int[] {64, 128, 1}));
        due("at (0, 0): above the page", page.stamp(2, 0, 0), 0);
        due("on the first centre", page.stamp(2, -32, 160), 1);
        due("pixel(0, 0)", page.pixel(0, 0), 1);
        due("on another centre", page.stamp(2, 96, 608), 1);
        due("pixel(2, 7)", page.pixel(2, 7), 1);
        // -1 unit of 2048 is 0 up, not 1 down: y is taken before it is turned.
        FontMaker maker = with(new int[] {1, 1, 1}, new int[] {-1, -1, 1});
        maker.units = 2048;
        dueWindings("1 and -1 of 2048", loaded(maker), 1, -1, ON_CURVE, 0, 0, ON_CURVE, 0, 1, 0,
                0, -1, 0, -1, 0, 0);
    }

    private static void middles() {
        sentence("between two neighbours that are not on lies one that is on, in their middle");
        GlyphPage page = loaded(with(new int[] {0, 0, 1, 0, 100, 0, 100, 100, 0, 100, 0, 1}));
        dueWindings("middle 50, 100", page, 50, -100, ON_CURVE, 50, -101, 0, 50, -99, 1, 49, -100, 0,
                51, -100, 0, 0, -50, 0, 1, -1, 1);
        // The middle lies half a 64th off, where no place can be.
        GlyphPage half = loaded(with(new int[] {0, 0, 1, 0, 100, 0, 101, 100, 0, 101, 0, 1}));
        dueWindings("middle 50.5, 100", half, 50, -100, 0, 51, -100, 0, 50, -99, 1, 51, -99, 1);
        GlyphPage below = loaded(with(new int[] {0, 0, 1, 0, -100, 0, -101, -100, 0, -101, 0, 1}));
        dueWindings("middle -50.5, -100", below, -50, 100, 0, -51, 100, 0, -50, 99, 1, -51, 99, 1);
        // The middle of what is scaled, half a 64th off, not what is scaled of the middle.
        FontMaker scaled = with(new int[] {0, 0, 0, 1, 0, 0, 1, 200, 0, 0, 200, 0});
        scaled.units = 2048;
        dueWindings("0 and 1 of 2048", loaded(scaled), 0, 0, 0, 1, 0, 0, 0, -50, ON_CURVE,
                1, -50, ON_CURVE, 0, -100, 0, 1, -100, 0);
    }

    private static void lines() {
        sentence("between two that are on a line");
        GlyphPage page = loaded(with(new int[] {0, 0, 1, 100, 200, 1, 200, 0, 1}));
        dueWindings("a triangle", page, 0, 0, ON_CURVE, 50, -100, ON_CURVE, 49, -100, 0, 51, -100, 1,
                25, -50, ON_CURVE, 50, -101, 0, 50, -99, 1, 100, -200, ON_CURVE, 100, -201, 0,
                100, -199, 1, 150, -100, ON_CURVE, 151, -100, 0, 149, -100, 1, 100, 0, ON_CURVE,
                100, 1, 0, 100, -1, 1, 200, 0, ON_CURVE, 201, 0, 0, -1, 0, 0);
        GlyphPage third = loaded(with(new int[] {0, 0, 1, 100, 300, 1}));
        dueWindings("a line there and back", third, 33, -99, ON_CURVE, 33, -100, 0, 33, -98, 0,
                34, -100, 0, 100, -300, ON_CURVE, 101, -303, 0, -1, 3, 0);
    }

    private static void bends() {
        sentence("a point that is not on bends the curve between its neighbours");
        GlyphPage page = loaded(with(new int[] {0, 0, 1, 100, 200, 0, 200, 0, 1}));
        dueWindings("a bow", page, 100, -100, ON_CURVE, 100, -101, 0, 100, -99, 1, 99, -100, 0,
                50, -75, ON_CURVE, 50, -76, 0, 50, -74, 1, 150, -75, ON_CURVE, 151, -75, 0, 149, -75, 1,
                100, -200, 0, 0, 0, ON_CURVE, 200, 0, ON_CURVE, 100, 0, ON_CURVE, 201, 0, 0, -1, 0, 0);
        sentence("t from 0 to 1");
        GlyphPage hook = loaded(with(new int[] {0, 0, 1, 0, 100, 0, 100, 100, 1}));
        // The same parabola goes on behind its ends: at t = -1 it is at 100, -300.
        dueWindings("a hook", hook, 100, 300, 0, 100, -100, ON_CURVE, 0, 0, ON_CURVE, 25, -75, ON_CURVE,
                50, -50, ON_CURVE, 24, -75, 0, 26, -75, 1, 400, 0, 0);
        GlyphPage flat = loaded(with(new int[] {0, 0, 1, 90, 0, 0, 0, 0, 1}));
        dueWindings("flat, there and back", flat, 44, 0, ON_CURVE, 45, 0, ON_CURVE, 46, 0, 0, -1, 0, 0,
                0, 0, ON_CURVE, 45, 1, 0, 45, -1, 0);
        GlyphPage upright = loaded(with(new int[] {0, 0, 1, 0, 90, 0, 0, 0, 1}));
        dueWindings("upright, there and back", upright, 0, -44, ON_CURVE, 0, -45, ON_CURVE, 0, -46, 0,
                0, 1, 0, 1, -45, 0, -1, -45, 0);
        GlyphPage slanted = loaded(with(new int[] {0, 0, 1, 120, 60, 0, 40, 20, 1}));
        dueWindings("slanted, there and back", slanted, 40, -20, ON_CURVE, 72, -36, ON_CURVE,
                74, -37, 0, 70, -35, ON_CURVE, 71, -35, 0, 70, -36, 0, 0, 0, ON_CURVE, -2, 1, 0);
    }

    /**
     * A parabola that would cross the row 0 at t = 1.1 and 1.3, or, turned, at t = -0.1 and -0.3, but
     * ends, or begins, above it.
     */
    private static void bendsBehindTheirEnds() {
        sentence("t from 0 to 1");
        for (int flip = -1; flip <= 1; flip += 2) {
            int[] end = {0, 1430 * flip, 1, 500, 230 * flip, 0, 1000, 30 * flip, 1, 1000, 1430 * flip, 1};
            int[] begin = {1000, 1430 * flip, 1, 1000, 30 * flip, 1, 500, 230 * flip, 0, 0, 1430 * flip, 1};
            for (int[] contour : new int[][] {end, begin}) {
                GlyphPage page = loaded(with(contour));
                dueWindings("flip " + flip, page, 1100, 0, 0, 1200, 0, 0, 1300, 0, 0, 1000, 0, 0,
                        900, 0, 0, 1100, -20 * flip, 0, 1000, -30 * flip, ON_CURVE, 1000, -29 * flip, 0);
                // The row 0 of the outline is now that of the centres of row 31.
                CHECK.isTrue("some pixels, flip " + flip, page.stamp(2, 0, 2016) > 100);
                due("none in the row that it does not come to", page.row(31), 0);
            }
        }
    }

    /** Curves that begin or end half a 64th beside the place. */
    private static void halfMiddles() {
        sentence("in their middle");
        int[] flat = {2, 100, 1, 2, 0, 0, -1, 0, 0, -10, 0, 0, -10, 100, 1};
        int[] turned = {-10, 100, 1, -10, 0, 0, -1, 0, 0, 2, 0, 0, 2, 100, 1};
        for (int[] contour : new int[][] {flat, turned}) {
            dueWindings("flat from 0.5 to -5.5", loaded(with(contour)), 0, 0, ON_CURVE, -5, 0, ON_CURVE,
                    1, 0, 0, -6, 0, 0, -2, 0, ON_CURVE);
        }
        int[] ring = {0, 0, 0, 101, 0, 0, 101, 101, 0, 0, 101, 0};
        int[] back = {0, 101, 0, 101, 101, 0, 101, 0, 0, 0, 0, 0};
        for (int y = -51; y <= -50; y++) {
            dueWindings("a ring", loaded(with(ring)), 50, y, -1, 1, y, -1, 100, y, -1, 0, y, 0, 101, y, 0,
                    -5, y, 0, 105, y, 0);
            dueWindings("a ring, turned", loaded(with(back)), 50, y, 1, 1, y, 1, 100, y, 1, 0, y, 0,
                    101, y, 0, -5, y, 0, 105, y, 0);
        }
        for (int flip = -1; flip <= 1; flip += 2) {
            int f = flip;
            int[] dip = {-100, 21 * f, 0, 0, -20 * f, 0, 100, 21 * f, 0, 0, 300 * f, 0};
            dueWindings("a dip from 0.5 to -9.75", loaded(with(dip)), 0, 0, -f, -60, 0, 0, 60, 0, 0,
                    -45, 0, -f, 45, 0, -f, 0, 9 * f, -f, 0, 10 * f, 0);
        }
    }

    private static void noneOn() {
        sentence("One without points that are on begins between its last and first");
        GlyphPage page = loaded(with(new int[] {0, 0, 0, 0, 200, 0, 200, 0, 0}));
        dueWindings("three", page, 100, 0, ON_CURVE, 0, -100, ON_CURVE, 100, -100, ON_CURVE,
                25, -25, ON_CURVE, 24, -24, 0, 26, -26, 1, 0, 0, 0, 99, 0, 0, 101, 0, 0, 100, 1, 0,
                100, -1, 1, 0, -99, 0, 0, -101, 0, 1, -100, 1, 101, -101, 0, 99, -99, 1);
        GlyphPage round = loaded(with(new int[] {0, 0, 0, 200, 0, 0, 200, 200, 0, 0, 200, 0}));
        dueWindings("four", round, 100, 0, ON_CURVE, 100, 1, 0, 100, -1, -1, 200, -100, ON_CURVE,
                0, -100, ON_CURVE, 100, -200, ON_CURVE, 175, -175, ON_CURVE, 176, -175, 0,
                174, -175, -1, 25, -25, ON_CURVE, 100, -100, -1);
    }

    private static void singlePoints() {
        sentence("one of a single point is that point alone, on or not");
        for (int on = 0; on < 2; on++) {
            GlyphPage page = loaded(with(new int[] {7, 9, on}));
            dueDot("a point, on " + on, page, 7, -9);
            due("on a centre", page.stamp(2, 25, 41), 1);
            due("beside it", page.stamp(2, 24 + 64, 41), 0);
        }
        GlyphPage two = loaded(with(new int[] {0, 0, 0}, new int[] {10, 0, 0}));
        dueWindings("two points alone", two, 0, 0, ON_CURVE, 10, 0, ON_CURVE, 5, 0, 0);
    }

    private static void twoPoints() {
        sentence("CONTOUR as a closed curve");
        GlyphPage onOn = loaded(with(new int[] {0, 0, 1, 40, 40, 1}));
        dueWindings("on, on", onOn, 0, 0, ON_CURVE, 20, -20, ON_CURVE, 40, -40, ON_CURVE, 41, -41, 0,
                20, -21, 0);
        GlyphPage onOff = loaded(with(new int[] {0, 0, 1, 40, 40, 0}));
        dueWindings("on, not", onOff, 0, 0, ON_CURVE, 20, -20, ON_CURVE, 21, -21, 0, 40, -40, 0);
        GlyphPage offOn = loaded(with(new int[] {0, 0, 0, 40, 40, 1}));
        dueWindings("not, on", offOn, 0, 0, 0, 20, -20, ON_CURVE, 19, -19, 0, 40, -40, ON_CURVE);
        GlyphPage offOff = loaded(with(new int[] {0, 0, 0, 40, 40, 0}));
        dueWindings("not, not", offOff, 0, 0, 0, 10, -10, ON_CURVE, 9, -9, 0, 20, -20, ON_CURVE,
                30, -30, ON_CURVE, 31, -31, 0, 40, -40, 0);
    }

    /** The same bow, begun at each of its points. */
    private static void closings() {
        sentence("CONTOUR as a closed curve");
        int[] bow = {0, 0, 1, 0, 200, 1, 100, 400, 0, 200, 200, 1, 300, 100, 0, 200, 0, 1};
        for (int first = 0; first < 6; first++) {
            int[] turned = new int[18];
            for (int i = 0; i < 18; i++) {
                turned[i] = bow[(i + 3 * first) % 18];
            }
            dueWindings("begun at " + first, loaded(with(turned)), 0, -100, ON_CURVE, 100, -300, ON_CURVE,
                    100, -301, 0, 250, -100, ON_CURVE, 251, -100, 0, 249, -100, 1, 100, 0, ON_CURVE,
                    100, 1, 0, 0, 0, ON_CURVE, 200, -200, ON_CURVE, 200, 0, ON_CURVE, 225, -100, 1);
            GlyphPage page = loaded(with(turned), 8, 8);
            due("stamp, begun at " + first, page.stamp(2, 32, 352), 18);
            int[] rows = {0, 6, 15, 15, 15, 15, 0};
            for (int j = 0; j < rows.length; j++) {
                due("row(" + j + "), begun at " + first, page.row(j), rows[j]);
            }
        }
    }

    private static void contoursApart() {
        sentence("CONTOUR as a closed curve");
        GlyphPage page = loaded(with(new int[] {0, 0, 1, 0, 100, 1, 100, 100, 1, 100, 0, 1},
                new int[] {200, 0, 1, 200, 100, 1, 300, 100, 1, 300, 0, 1}));
        dueWindings("two squares", page, 100, -50, ON_CURVE, 150, -50, 0, 150, 0, 0, 150, -100, 0,
                200, -50, ON_CURVE, 50, -50, 1, 250, -50, 1, 101, -50, 0, 199, -50, 0);
    }

    private static void turns() {
        sentence("turns on the page that go from the x axis (right) to the y axis (down) count 1, the "
                + "others -1");
        int[] right = {0, 0, 1, 0, 100, 1, 100, 100, 1, 100, 0, 1};
        int[] left = {0, 0, 1, 100, 0, 1, 100, 100, 1, 0, 100, 1};
        dueWindings("right", loaded(with(right)), 50, -50, 1, 150, -50, 0, -50, -50, 0);
        dueWindings("left", loaded(with(left)), 50, -50, -1, 150, -50, 0, -50, -50, 0);
        dueWindings("right and right", loaded(with(right, right)), 50, -50, 2, 0, -50, ON_CURVE);
        dueWindings("right and left", loaded(with(right, left)), 50, -50, 0, 0, -50, ON_CURVE);
        dueWindings("left and left", loaded(with(left, left)), 50, -50, -2);
        int[] eight = {0, 0, 1, 100, 100, 1, 100, 0, 1, 0, 100, 1};
        dueWindings("an eight", loaded(with(eight)), 10, -50, -1, 90, -50, 1, 50, -50, ON_CURVE,
                50, -60, 0, 50, -40, 0);
        int[] twice = {0, 0, 1, 0, 100, 1, 100, 100, 1, 100, 0, 1, 10, 0, 1, 10, 90, 1, 90, 90, 1, 90, 10,
            1, 0, 10, 1};
        dueWindings("twice round", loaded(with(twice)), 50, -50, 2, 5, -50, 1, 95, -50, 1, 50, -5, 1,
                5, -5, 0, 105, -50, 0);
    }

    private static void manyTurns() {
        sentence("how often these go round it");
        int[][] right = new int[16][];
        int[][] left = new int[16][];
        for (int i = 0; i < 16; i++) {
            int s = 200 + i;
            right[i] = new int[] {-s, -s, 1, -s, s, 1, s, s, 1, s, -s, 1};
            left[i] = new int[] {-s, -s, 1, s, -s, 1, s, s, 1, -s, s, 1};
        }
        FontMaker maker = with(right);
        maker.add(FontMaker.simple(left), 0);
        maker.add(FontMaker.composite(2, 0, 0, 2, 0, 0), 0);
        maker.add(FontMaker.composite(3, 0, 0, 3, 0, 0), 0);
        maker.add(FontMaker.composite(2, 0, 0, 3, 0, 0), 0);
        GlyphPage page = loaded(maker);
        int[] want = {16, -16, 32, -32, 0};
        for (int i = 0; i < 5; i++) {
            due("turns of " + (2 + i), page.winding(2 + i, 0, 0), want[i]);
            due("beside " + (2 + i), page.winding(2 + i, 216, 0), 0);
            due("on the outmost of " + (2 + i), page.winding(2 + i, 215, 0), ON_CURVE);
            page.clear();
            due("stamp of " + (2 + i), page.stamp(2 + i, 320, 320), i < 4 ? 36 : 0);
        }
    }

    /** Places level with points, with the turning of curves, and with flat lines. */
    private static void levelWithPoints() {
        sentence("WINDING of a place that is on none of its curves");
        GlyphPage diamond = loaded(with(new int[] {0, 0, 1, 50, 50, 1, 100, 0, 1, 50, -50, 1}));
        dueWindings("a diamond", diamond, -10, 0, 0, 50, 0, 1, 110, 0, 0, 0, -50, 0, 0, 50, 0, 50, -51, 0,
                50, 51, 0, 40, -50, 0, 60, -50, 0, 40, 50, 0, 99, 0, 1);
        GlyphPage teeth = loaded(with(new int[] {0, 0, 1, 0, 100, 1, 20, 50, 1, 40, 100, 1, 60, 50, 1,
            80, 50, 1, 100, 100, 1, 100, 0, 1}));
        dueWindings("teeth", teeth, -5, -50, 0, 5, -50, 1, 30, -50, 1, 90, -50, 1, 105, -50, 0, -5, -100, 0,
                20, -100, 0, 70, -100, 0, 70, -51, 0, 70, -50, ON_CURVE, 70, -49, 1, 20, -50, ON_CURVE,
                20, -51, 0, 20, -49, 1, 60, -50, ON_CURVE, 40, -50, 1);
        GlyphPage bow = loaded(with(new int[] {0, 0, 1, 100, 200, 0, 200, 0, 1, 100, 50, 0}));
        dueWindings("a bow over a bow", bow, -10, -100, 0, 0, -100, 0, 210, -100, 0, 100, -25, ON_CURVE,
                100, -24, 0, 100, -26, 1, 20, -25, 1, 180, -25, 1, 200, -25, 0, 0, -25, 0, 100, 0, 0,
                -5, 0, 0, 205, 0, 0);
        GlyphPage lying = loaded(with(new int[] {0, 0, 1, 200, 100, 0, 0, 200, 1}));
        dueWindings("a bow to the right", lying, 100, -100, ON_CURVE, 99, -100, -1, 101, -100, 0,
                -1, -100, 0, -1, -200, 0, 1, -200, 0, 1, 0, 0, -1, 0, 0);
    }

    private static void inOrOn() {
        sentence("A place is IN an outline if its winding is not 0, or it is on a curve.");
        int[] right = {0, 0, 1, 0, 256, 1, 256, 256, 1, 256, 0, 1};
        int[] left = {0, 0, 1, 256, 0, 1, 256, 256, 1, 0, 256, 1};
        due("1, edges on centres", loaded(with(right)).stamp(2, 32, 288), 25);
        due("-1, edges on centres", loaded(with(left)).stamp(2, 32, 288), 25);
        due("2, edges on centres", loaded(with(right, right)).stamp(2, 32, 288), 25);
        due("0, edges on centres", loaded(with(right, left)).stamp(2, 32, 288), 16);
        due("1, edges between centres", loaded(with(right)).stamp(2, 0, 256), 16);
        due("2, edges between centres", loaded(with(right, right)).stamp(2, 0, 256), 16);
        due("0, edges between centres", loaded(with(right, left)).stamp(2, 0, 256), 0);
        due("1, a 64th to the right", loaded(with(right)).stamp(2, 33, 288), 20);
        due("1, a 64th to the left", loaded(with(right)).stamp(2, 31, 288), 20);
        due("1, a 64th up", loaded(with(right)).stamp(2, 32, 287), 20);
        due("1, a 64th down", loaded(with(right)).stamp(2, 32, 289), 20);
        int[] hole = {64, 64, 1, 192, 64, 1, 192, 192, 1, 64, 192, 1};
        due("a hole, edges between centres", loaded(with(right, hole)).stamp(2, 0, 256), 12);
        due("a hole, edges on centres", loaded(with(right, hole)).stamp(2, 32, 288), 24);
        int[] line = {0, 0, 1, 128, 64, 1};
        due("a line through two centres", loaded(with(line)).stamp(2, 32, 96), 2);
        due("a line beside them", loaded(with(line)).stamp(2, 32, 97), 0);
        int[] flat = {0, 0, 1, 128, 0, 1};
        due("a flat line through three centres", loaded(with(flat)).stamp(2, 32, 96), 3);
        due("a flat line between centres", loaded(with(flat)).stamp(2, 32, 95), 0);
        int[] bow = {0, 0, 1, 128, 256, 0, 256, 0, 1};
        due("a bow whose top is a centre", loaded(with(bow)).stamp(2, 32, 160), 9);
        due("a bow whose top is a 64th too low", loaded(with(bow)).stamp(2, 32, 161), 6);
    }

    /** The page's half below a slanted line: in row j the first j + 1 pixels, or the last. */
    private static void everyColumn() {
        sentence("All pixels whose centre is in the outline");
        FontMaker maker = with(new int[] {0, 4096, 1, 4096, 0, 1, 0, 0, 1});
        maker.add(FontMaker.simple(new int[][] {{4096, 4096, 1, 4096, 0, 1, 0, 0, 1}}), 0);
        GlyphPage page = loaded(maker);
        due("the half on the left", page.stamp(2, 0, 4096), 64 * 65 / 2);
        for (int j = 0; j < 64; j++) {
            due("row(" + j + ")", page.row(j), -1L >>> 63 - j);
        }
        due("clear", page.clear(), 64 * 65 / 2);
        due("the half on the right", page.stamp(3, 0, 4096), 64 * 65 / 2);
        for (int j = 0; j < 64; j++) {
            due("row(" + j + ")", page.row(j), -1L << 63 - j);
        }
        due("the quarter that is in the first alone", page.stamp(2, 0, 4096), 1024);
        page.clear();
        due("a 64th further left", page.stamp(2, -1, 4096), 64 * 65 / 2 - 64);
        due("a 64th further right", page.stamp(2, 1, 4096), 64);
    }

    /** x = y y / 4096, up from 0 to 4096, both ways round, as it is and turned to the left. */
    private static void everyColumnOfBends() {
        sentence("lies inside or on an outline of true quadratic curves");
        int[] right = {0, 0, 1, 0, 2048, 0, 4096, 4096, 1, 4096, 0, 1};
        int[] back = {4096, 0, 1, 4096, 4096, 1, 0, 2048, 0, 0, 0, 1};
        int[] left = {4096, 0, 1, 4096, 2048, 0, 0, 4096, 1, 0, 0, 1};
        int[] leftBack = {0, 0, 1, 0, 4096, 1, 4096, 2048, 0, 4096, 0, 1};
        int[][] contours = {right, back, left, leftBack};
        for (int c = 0; c < 4; c++) {
            GlyphPage page = loaded(with(contours[c]));
            int set = page.stamp(2, 0, 4096);
            for (int j = 0; j < 64; j++) {
                int y = 4096 - 64 * j - 32;
                long bits = 0;
                for (int i = 0; i < 64; i++) {
                    boolean in = 4096 * (64 * i + 32) >= y * y;
                    bits |= in ? 1L << i : 0;
                }
                due("contour " + c + ", row(" + j + ")", page.row(j), c < 2 ? bits : Long.reverse(bits));
                set -= Long.bitCount(bits);
            }
            due("contour " + c + ", what is set beyond these", set, 0);
        }
    }

    private static FontMaker manyShapes() {
        FontMaker maker = with(new int[] {0, 0, 1, 100, 200, 0, 200, 0, 1});
        int[][][] more = {
            {{0, 0, 1, 0, 300, 1, 300, 300, 1, 300, 0, 1}},
            {{300, 300, 1, 500, 300, 1, 400, 500, 0}},
            {{-200, -200, 0, 200, -200, 0, 200, 200, 0, -200, 200, 0}},
            {{192, 0, 1}},
            {{0, 0, 1, 600, 0, 1}},
            {{0, 0, 1, 0, 600, 1}, {64, 64, 0, 500, 64, 0, 300, 400, 1}},
            {{0, 0, 1, 400, 0, 0, 100, 0, 1}}};
        for (int[][] contours : more) {
            maker.add(FontMaker.simple(contours), 0);
        }
        return maker;
    }

    /** What one glyph leaves behind does not matter to the next one. */
    private static void oneBehindAnother() {
        sentence("the outline of a glyph");
        int last = 9;
        for (int g = 0; g <= last; g++) {
            GlyphPage alone = loaded(manyShapes(), 12, 12);
            int set = alone.stamp(g, 96, 544);
            for (int before = 0; before <= last; before++) {
                GlyphPage page = loaded(manyShapes(), 12, 12);
                page.stamp(before, 160, 608);
                page.clear();
                due(g + " behind " + before, page.stamp(g, 96, 544), set);
                for (int j = 0; j < 12; j++) {
                    due(g + " behind " + before + ": row(" + j + ")", page.row(j), alone.row(j));
                }
            }
        }
    }

    /** 256 points are 256 curves. */
    private static void mostPoints() {
        sentence("a glyph has at most 256 points");
        int[] comb = new int[3 * 128];
        for (int i = 0; i < 128; i++) {
            comb[3 * i] = i % 2 * 64;
            comb[3 * i + 1] = i * 8;
            comb[3 * i + 2] = 1;
        }
        FontMaker maker = with(comb);
        maker.add(FontMaker.composite(2, 0, 0, 2, 512, 0), 0);
        GlyphPage page = loaded(maker);
        due("points", page.look(3, 2), 256);
        due("the first line", page.winding(3, 32, -4), ON_CURVE);
        due("the last line, from 576, 1016 to 512, 0", page.winding(3, 544, -508), ON_CURVE);
        due("beside it", page.winding(3, 600, -508), 0);
        CHECK.isTrue("some pixels", page.stamp(3, 0, 1024) >= 16);
        for (int j = 0; j < 16; j++) {
            due("both halves are alike, row(" + j + ")", page.row(j), (page.row(j) & 255) * 257);
        }
    }

    private static void centres() {
        sentence("the centre of pixel (i, j) is (64 i + 32, 64 j + 32)");
        int[][] places = {{0, 0}, {1, 0}, {0, 1}, {5, 9}, {63, 0}, {0, 63}, {63, 63}};
        for (int[] p : places) {
            GlyphPage page = loaded(with(new int[] {0, 0, 1}));
            int x = 64 * p[0] + 32;
            int y = 64 * p[1] + 32;
            int[][] beside = {{x - 1, y}, {x + 1, y}, {x, y - 1}, {x, y + 1}, {x - 32, y}, {x + 31, y}};
            for (int[] b : beside) {
                due("a dot at " + b[0] + ", " + b[1], page.stamp(2, b[0], b[1]), 0);
            }
            due("a dot at " + x + ", " + y, page.stamp(2, x, y), 1);
            due("its pixel", page.pixel(p[0], p[1]), 1);
            due("its row", page.row(p[1]), 1L << p[0]);
        }
        GlyphPage page = loaded(with(new int[] {0, 0, 1}), 10, 6);
        int[][] out = {{-32, 32}, {32, -32}, {64 * 10 + 32, 32}, {32, 64 * 6 + 32}, {-20000, 32},
            {20000, 20000}};
        for (int[] p : out) {
            due("a dot out of the page at " + p[0] + ", " + p[1], page.stamp(2, p[0], p[1]), 0);
        }
        due("inked", page.inked(), 0);
    }

    private static void windingPlaces() {
        sentence("2000 if there is no such glyph, or if x, y or a coordinate of the outline is not -20000 "
                + "to 20000");
        GlyphPage page = loaded(FontMaker.plain());
        for (int sign = -1; sign <= 1; sign += 2) {
            for (int v = 19999; v <= 20001; v++) {
                int due = v > 20000 ? NO_WINDING : 0;
                due("x " + sign * v, page.winding(1, sign * v, 5), due);
                due("y " + sign * v, page.winding(1, 5, sign * v), due);
                due("x and y " + sign * v, page.winding(1, sign * v, sign * v), due);
                due("x " + sign * v + " of an empty glyph", page.winding(0, sign * v, 5), due);
                due("y " + sign * v + " of an empty glyph", page.winding(0, 5, sign * v), due);
            }
        }
        for (int v : new int[] {MIN, MIN + 1, -65536, 65536, MAX, 1 << 30, -1 << 30}) {
            due("x " + v, page.winding(1, v, 5), NO_WINDING);
            due("y " + v, page.winding(1, 5, v), NO_WINDING);
        }
    }

    private static void windingOutlines() {
        sentence("or a coordinate of the outline is not -20000 to 20000");
        for (int sign = -1; sign <= 1; sign += 2) {
            for (int v = 19999; v <= 20001; v++) {
                for (int on = 0; on < 2; on++) {
                    int due = v > 20000 ? NO_WINDING : ON_CURVE;
                    int[] wide = {0, 0, 1, sign * v, 0, on, 0, 5, 1};
                    due("x of a point " + sign * v, loaded(with(wide)).winding(2, 0, 0), due);
                    int[] high = {0, 0, 1, 0, sign * v, on, 5, 0, 1};
                    due("y of a point " + sign * v, loaded(with(high)).winding(2, 0, 0), due);
                    int[] dot = {sign * v, sign * v, on};
                    due("another contour at " + sign * v,
                            loaded(with(new int[] {0, 0, 1}, dot)).winding(2, 0, 0), due);
                }
            }
        }
        // It is the outline that counts, in 64ths, not the units.
        GlyphPage page = loaded(with(new int[] {20001, 0, 1, 0, 0, 1}));
        due("20001 in size 16", page.winding(2, 0, 0), NO_WINDING);
        page.size(15);
        due("20001 in size 15", page.winding(2, 0, 0), ON_CURVE);
        page.size(17);
        due("20001 in size 17", page.winding(2, 0, 0), NO_WINDING);
        GlyphPage far = loaded(with(new int[] {-32768, 32767, 1}));
        due("-32768 in size 16", far.winding(2, 0, 0), NO_WINDING);
        far.size(9);
        due("-32768 in size 9", far.winding(2, -18432, -18431), ON_CURVE);
        far.size(10);
        due("-32768 in size 10", far.winding(2, 0, 0), NO_WINDING);
    }

    private static void windingGlyphs() {
        sentence("2000 if there is no such glyph");
        GlyphPage none = new GlyphPage(8, 8);
        GlyphPage page = loaded(with(new int[] {0, 0, 1}));
        int[][] want = {{MIN, NO_WINDING}, {-1, NO_WINDING}, {0, 0}, {1, ON_CURVE}, {2, ON_CURVE},
            {3, NO_WINDING}, {64, NO_WINDING}, {65536 + 2, NO_WINDING}, {MAX, NO_WINDING}};
        for (int[] w : want) {
            due("winding(" + w[0] + ", 0, 0)", page.winding(w[0], 0, 0), w[1]);
            due("winding(" + w[0] + ", 0, 0) without a font", none.winding(w[0], 0, 0), NO_WINDING);
        }
    }

    private static void stampPlaces() {
        sentence("REFUSED if x, y or a coordinate of the outline is not -20000 to 20000");
        GlyphPage page = loaded(with(new int[] {0, 0, 1}), 8, 8);
        for (int sign = -1; sign <= 1; sign += 2) {
            for (int v = 19999; v <= 20001; v++) {
                int due = v > 20000 ? REFUSED : 0;
                for (int g : new int[] {0, 2}) {
                    due("stamp(" + g + ", x " + sign * v + ")", page.stamp(g, sign * v, 5), due);
                    due("stamp(" + g + ", y " + sign * v + ")", page.stamp(g, 5, sign * v), due);
                }
            }
        }
        for (int v : new int[] {MIN, MIN + 1, -65536, 65536 + 32, MAX}) {
            for (int g : new int[] {0, 2}) {
                due("stamp(" + g + ", x " + v + ")", page.stamp(g, v, 32), REFUSED);
                due("stamp(" + g + ", y " + v + ")", page.stamp(g, 32, v), REFUSED);
            }
        }
        due("inked", page.inked(), 0);
        // x itself counts too, where the outline lies nearer.
        GlyphPage back = loaded(with(new int[] {-30, 40, 1}), 8, 8);
        due("x 20001, the point at 19971", back.stamp(2, 20001, 0), REFUSED);
        due("y 20001, the point at 19961", back.stamp(2, 0, 20001), REFUSED);
        due("x 20000, the point at 19970", back.stamp(2, 20000, 0), 0);
        due("y 20000, the point at 19960", back.stamp(2, 0, 20000), 0);
    }

    private static void stampOutlines() {
        sentence("or a coordinate of the outline is not -20000 to 20000");
        int[][] square = {{-64, -64, 1, -64, 640, 1, 640, 640, 0, 640, -64, 1}};
        GlyphPage page = loaded(with(square), 8, 8);
        int[][] places = {{19359, 0, 0}, {19360, 0, 0}, {19361, 0, REFUSED}, {-19935, 0, 0},
            {-19936, 0, 0}, {-19937, 0, REFUSED}, {0, -19359, 0}, {0, -19360, 0}, {0, -19361, REFUSED},
            {0, 19935, 0}, {0, 19936, 0}, {0, 19937, REFUSED}};
        for (int[] p : places) {
            due("stamp(2, " + p[0] + ", " + p[1] + ")", page.stamp(2, p[0], p[1]), p[2]);
        }
        due("inked", page.inked(), 0);
        // One point too far: nothing is set, though the outline lies over the page.
        int[] wide = {0, 0, 1, 0, 512, 1, 20000, 512, 0, 20000, 0, 1};
        GlyphPage over = loaded(with(wide), 8, 8);
        due("one 64th too far", over.stamp(2, 1, 512), REFUSED);
        due("inked", over.inked(), 0);
        due("just near enough", over.stamp(2, 0, 512), 64);
    }

    private static void stampGlyphs() {
        sentence("NONE if there is no such glyph ... (Without a font there is no glyph.)");
        GlyphPage none = new GlyphPage(8, 8);
        GlyphPage page = loaded(with(new int[] {0, 0, 1}));
        for (int g : new int[] {MIN, -1, 3, 64, 65536 + 2, MAX}) {
            due("stamp(" + g + ", 32, 32)", page.stamp(g, 32, 32), NONE);
            due("stamp(" + g + ", 20001, 0)", page.stamp(g, 20001, 0), NONE);
            due("stamp(" + g + ", 0, MIN)", page.stamp(g, 0, MIN), NONE);
        }
        for (int g : new int[] {-1, 0, 1}) {
            due("stamp(" + g + ", 0, 0) without a font", none.stamp(g, 0, 0), NONE);
            due("stamp(" + g + ", MAX, 0) without a font", none.stamp(g, MAX, 0), NONE);
        }
        due("stamp(0, 32, 32)", page.stamp(0, 32, 32), 0);
        due("stamp(2, 32, 32)", page.stamp(2, 32, 32), 1);
    }

    private static void stampCounts() {
        sentence("are set: how many were not");
        GlyphPage page = loaded(FontMaker.plain(), 16, 16);
        due("a square", page.stamp(1, 0, 640), 100);
        due("again", page.stamp(1, 0, 640), 0);
        due("a pixel to the right", page.stamp(1, 64, 640), 10);
        due("a pixel down", page.stamp(1, 64, 704), 10);
        due("in the corner", page.stamp(1, 384, 1024), 100 - 5 * 5);
        due("half out of the page", page.stamp(1, 704, 320), 25);
        due("inked", page.inked(), 100 + 10 + 10 + 75 + 25);
        due("clear", page.clear(), 220);
        due("again", page.stamp(1, 0, 640), 100);
    }
}
