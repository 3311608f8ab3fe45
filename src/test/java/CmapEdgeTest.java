/** Rule 7 of promise 4, and promise 6: which glyph a code has. */
public final class CmapEdgeTest extends Edges {
    public static void main(String[] args) {
        cmapHeader();
        entries();
        firstEntryCounts();
        subtablePlace();
        subtableAtZero();
        subtableFormat();
        subtableLength();
        segmentCount();
        segmentsInLength();
        ends();
        starts();
        firstSegmentCounts();
        deltas();
        ranges();
        rangeOfEachSegment();
        placesInSubtable();
        glyphsOrAbove();
        codes();
        CHECK.finish();
    }

    private static void judgedCodes(byte[] codes, String what, int fault) {
        judgedWith("cmap", FontMaker.cmap(codes), what, fault);
    }

    private static void cmapHeader() {
        sentence("cmap: 4 bytes, of which 2 at 2 are n");
        for (int n = 0; n < 4; n++) {
            judgedWith("cmap", new byte[n], n + " bytes", CMAP);
        }
        sentence("there is one");
        judgedWith("cmap", new byte[4], "4 bytes, no entry", CMAP);
        judgedWith("cmap", new byte[100], "100 bytes, no entry", CMAP);
        byte[] cmap = FontMaker.cmap(FontMaker.plain().codes());
        judgedWith("cmap", cmap, "an entry", GOOD);
        judgedWith("cmap", put(cmap, 2, 0), "an entry, but n is 0", CMAP);
    }

    private static void entries() {
        sentence("n times 8: 2 each: 3, 1");
        byte[] cmap = FontMaker.cmap(FontMaker.plain().codes());
        int[][] others = {{2, 1}, {4, 1}, {3, 0}, {3, 2}, {1, 3}, {259, 1}, {3, 257}, {0, 0}};
        for (int[] other : others) {
            judgedWith("cmap", put(put(cmap, 4, other[0]), 6, other[1]),
                    other[0] + ", " + other[1], CMAP);
        }
        // The subtable may lie in the entries behind the one that counts.
        byte[] five = bytes().two(0, 5, 3, 1).four(12)
                .two(4, 24, 0, 2, 0, 0, 0, 65535, 0, 65535, 1, 0).zeros(8).done();
        judgedWith("cmap", five, "5 entries and no more", GOOD);
        judgedWith("cmap", cut(five, 43), "a byte of the fifth is missing", CMAP);
        judgedWith("cmap", cut(five, 45), "a byte more", GOOD);
        judgedWith("cmap", put(five, 2, 6), "6 entries in the room of 5", CMAP);
        judgedWith("cmap", put(five, 2, 65535), "65535 entries", CMAP);
        judgedWith("cmap", put(five, 2, 4), "4 entries", GOOD);
    }

    private static byte[] twoEntries(byte[] entries, byte[] first, byte[] second) {
        return bytes().two(0, 2).all(entries).all(first).all(second).done();
    }

    private static void firstEntryCounts() {
        sentence("the first such counts");
        FontMaker maker = FontMaker.plain();
        byte[] one = maker.codes();
        maker.segments.set(0, new int[] {98, 98, 1 - 98, 0});
        byte[] two = maker.codes();
        byte[] both = bytes().two(3, 1).four(20).two(3, 1).four(20 + one.length).done();
        dueCodes("two of 3, 1", twoEntries(both, one, two), 1, 0);
        dueCodes("two of 3, 1, the other way", twoEntries(both, two, one), 0, 1);
        dueCodes("3, 0 before", twoEntries(put(both, 2, 0), one, two), 0, 1);
        dueCodes("0, 1 before", twoEntries(put(both, 0, 0), one, two), 0, 1);
        dueCodes("3, 10 behind", twoEntries(put(both, 10, 10), one, two), 1, 0);
        byte[] badFirst = twoEntries(both, put(one, 0, 6), two);
        judgedWith("cmap", badFirst, "the first is bad", CMAP);
        judgedWith("cmap", twoEntries(both, one, put(two, 0, 6)), "the second is bad", GOOD);
        byte[] far = putFour(both, 12, 99999);
        judgedWith("cmap", twoEntries(far, one, two), "the second lies far out", GOOD);
        judgedWith("cmap", put(twoEntries(put(both, 2, 0), one, two), 2, 1),
                "the second entry is not told of", CMAP);
    }

    private static void dueCodes(String what, byte[] cmap, int a, int b) {
        FontMaker maker = FontMaker.plain();
        maker.tables.put("cmap", cmap);
        GlyphPage page = loaded(maker);
        due(what + ": glyph(97)", page.glyph(97), a);
        due(what + ": glyph(98)", page.glyph(98), b);
    }

    private static void subtablePlace() {
        sentence("and 4: where its subtable begins");
        byte[] codes = FontMaker.plain().codes();
        byte[] moved = bytes().two(0, 1, 3, 1).four(15).one(4, 4, 4).all(codes).done();
        judgedWith("cmap", moved, "at 15", GOOD);
        dueCodes("at 15", moved, 1, 0);
        byte[] cmap = FontMaker.cmap(codes);
        for (long place : new long[] {11, 13, cmap.length - 24, cmap.length - 8, cmap.length - 1,
            cmap.length, cmap.length + 1, 65536 + 12, 1L << 31, (1L << 31) + 12, (1L << 32) - 1,
            (1L << 32) - 12}) {
            judgedWith("cmap", putFour(cmap, 8, place), "at " + place, CMAP);
        }
    }

    /** The subtable and the entries may be the same bytes: entry 1 says 3, 1 and 0. */
    private static void subtableAtZero() {
        sentence("where its subtable begins");
        byte[] cmap = bytes().two(4, 24, 0, 2, 0, 0, 3, 1, 0, 0, 1, 0).zeros(4 + 8 * 24 - 24).done();
        FontMaker maker = FontMaker.plain();
        maker.tables.put("cmap", cmap);
        GlyphPage page = loaded(maker);
        due("glyph(0), at 0", page.glyph(0), 1);
        due("glyph(1), at 0", page.glyph(1), 0);
        judgedWith("cmap", cut(cmap, cmap.length - 1), "at 0, a byte of the entries is missing", CMAP);
    }

    private static void subtableFormat() {
        sentence("That: 2 bytes 4");
        byte[] codes = FontMaker.plain().codes();
        for (int format : new int[] {0, 3, 4, 5, 6, 12, 256 + 4, 1024}) {
            judgedCodes(put(codes, 0, format), "format " + format, format == 4 ? GOOD : CMAP);
        }
    }

    private static void subtableLength() {
        sentence("2: its length (it lies in cmap)");
        byte[] codes = FontMaker.plain().codes();
        judgedCodes(codes, "up to the end", GOOD);
        judgedCodes(cut(codes, codes.length - 1), "a byte behind the end", CMAP);
        judgedCodes(cut(codes, codes.length + 1), "a byte before the end", GOOD);
        judgedCodes(put(codes, 2, codes.length + 1), "one more, behind the end", CMAP);
        judgedCodes(put(cut(codes, codes.length + 1), 2, codes.length + 1), "one more", GOOD);
        judgedCodes(put(codes, 2, 32768), "32768", CMAP);
        judgedCodes(put(codes, 2, 65535), "65535", CMAP);
        judgedCodes(put(codes, 2, 0), "0", CMAP);
    }

    private static void segmentCount() {
        sentence("2 at 6: 2 * s, s 1 or above, even");
        byte[] codes = FontMaker.plain().codes();
        int[][] counts = {{0, CMAP}, {1, CMAP}, {2, GOOD}, {3, CMAP}, {4, GOOD}, {5, CMAP}};
        for (int[] c : counts) {
            judgedCodes(put(codes, 6, c[0]), "2 s is " + c[0], c[1]);
        }
    }

    private static void segmentsInLength() {
        sentence("16 + 8 * s at most its length");
        for (int s = 1; s <= 3; s++) {
            byte[] codes = put(put(cut(bytes().two(4).done(), 60), 6, 2 * s), 2, 16 + 8 * s);
            judgedCodes(put(codes, 2, 16 + 8 * s - 2), s + " segments, 2 bytes less", CMAP);
            judgedCodes(put(codes, 2, 16 + 8 * s - 1), s + " segments, a byte less", CMAP);
            judgedCodes(codes, s + " segments", GOOD);
            judgedCodes(put(codes, 2, 16 + 8 * s + 1), s + " segments, a byte more", GOOD);
        }
        byte[] codes = FontMaker.plain().codes();
        judgedCodes(put(codes, 6, 6), "3 segments in the room of 2", CMAP);
        judgedCodes(put(codes, 6, 32768), "16384 segments", CMAP);
        judgedCodes(put(codes, 6, 65534), "32767 segments", CMAP);
    }

    /** 64 glyphs and segments of END, START, DELTA, RANGE, with what RANGE may lead to. */
    private static GlyphPage withSegments(int[][] segments, int... tail) {
        FontMaker maker = new FontMaker();
        while (maker.glyphs.size() < 64) {
            maker.add(new byte[0], 0);
        }
        for (int[] s : segments) {
            maker.segments.add(new int[] {s[1], s[0], s[2], s[3]});
        }
        maker.tables.put("cmap", bytes().all(FontMaker.cmap(maker.codes(tail))).two(7, 7, 7).done());
        return loaded(maker);
    }

    private static void dueGlyphs(GlyphPage page, int... codesAndGlyphs) {
        for (int i = 0; i < codesAndGlyphs.length; i += 2) {
            due("glyph(" + codesAndGlyphs[i] + ")", page.glyph(codesAndGlyphs[i]),
                    codesAndGlyphs[i + 1]);
        }
    }

    private static void ends() {
        sentence("of the first segment with END at or above it; 0 if there is none");
        dueGlyphs(withSegments(new int[][] {{20, 10, 0, 0}, {40, 30, 0, 0}}),
                19, 19, 20, 20, 21, 0, 29, 0, 39, 39, 40, 40, 41, 0, 65535, 0);
        dueGlyphs(withSegments(new int[][] {{0, 0, 5, 0}}), 0, 5, 1, 0);
        dueGlyphs(withSegments(new int[][] {{32767, 0, 32770, 0}, {32769, 0, 32770, 0}}),
                32766, 0, 32767, 1, 32768, 2, 32769, 3, 32770, 0);
        dueGlyphs(withSegments(new int[][] {{65534, 0, 5, 0}}), 65534, 3, 65535, 0);
        dueGlyphs(withSegments(new int[][] {{65535, 0, 5, 0}}), 65534, 3, 65535, 4);
    }

    private static void starts() {
        sentence("or START is above the code");
        dueGlyphs(withSegments(new int[][] {{20, 10, 3, 0}}), 9, 0, 10, 13, 11, 14, 0, 0);
        dueGlyphs(withSegments(new int[][] {{20, 20, 0, 0}}), 19, 0, 20, 20, 21, 0);
        dueGlyphs(withSegments(new int[][] {{20, 21, 0, 0}}), 19, 0, 20, 0, 21, 0);
        dueGlyphs(withSegments(new int[][] {{65535, 32768, 32770, 0}}), 32767, 0, 32768, 2, 32769, 3);
        dueGlyphs(withSegments(new int[][] {{65535, 0, 0, 0}}), 0, 0, 1, 1, 63, 63, 64, 0);
    }

    private static void firstSegmentCounts() {
        sentence("of the first segment with END at or above it");
        int[][] overlapping = {{20, 15, 0, 0}, {30, 10, 1, 0}, {25, 0, 2, 0}, {63, 0, 65535, 0}};
        dueGlyphs(withSegments(overlapping), 14, 0, 15, 15, 20, 20, 21, 22, 25, 26, 30, 31, 31, 30);
        int[][] same = {{20, 10, 1, 0}, {20, 10, 2, 0}};
        dueGlyphs(withSegments(same), 10, 11, 20, 21);
        int[][] falling = {{40, 40, 0, 0}, {20, 20, 0, 0}};
        dueGlyphs(withSegments(falling), 20, 0, 40, 40);
    }

    private static void deltas() {
        sentence("RANGE 0: code + DELTA, modulo 65536");
        dueGlyphs(withSegments(new int[][] {{65535, 0, 65535, 0}}), 0, 0, 1, 0, 2, 1, 64, 63, 65, 0);
        dueGlyphs(withSegments(new int[][] {{65535, 0, 1, 0}}), 65534, 0, 65535, 0, 0, 1, 62, 63, 63, 0);
        dueGlyphs(withSegments(new int[][] {{65535, 0, 2, 0}}), 65534, 0, 65535, 1);
        dueGlyphs(withSegments(new int[][] {{65535, 0, 32768, 0}}), 32767, 0, 32768, 0, 32769, 1, 1, 0);
        dueGlyphs(withSegments(new int[][] {{65535, 0, 65536 - 40, 0}}), 39, 0, 40, 0, 41, 1, 103, 63,
                104, 0);
    }

    private static void ranges() {
        sentence("0 if that is 0, else it + DELTA, modulo 65536");
        int[][] segment = {{30, 10, 3, 2}};
        GlyphPage page = withSegments(segment, 5, 0, 1, 65535, 65534, 65533, 65532, 60, 61, 60);
        dueGlyphs(page, 9, 0, 10, 8, 11, 0, 12, 4, 13, 2, 14, 1, 15, 0, 16, 0, 17, 63, 18, 0, 19, 63);
        int[][] bare = {{30, 10, 0, 2}};
        dueGlyphs(withSegments(bare, 5, 0, 63, 64, 65535), 10, 5, 11, 0, 12, 63, 13, 0, 14, 0);
    }

    private static void rangeOfEachSegment() {
        sentence("the number at the place of that RANGE + RANGE + 2 * (code - START)");
        int[][] segments = {{12, 10, 0, 6}, {22, 20, 0, 6}, {32, 30, 0, 4}};
        GlyphPage page = withSegments(segments, 11, 12, 13, 14, 15, 16);
        dueGlyphs(page, 10, 11, 11, 12, 12, 13, 20, 12, 21, 13, 22, 14, 30, 12, 31, 13, 32, 14);
        // RANGE 2 of a segment that is not the last leads to the RANGE of the next one.
        int[][] among = {{12, 10, 0, 2}, {22, 20, 0, 40}};
        dueGlyphs(withSegments(among, 9), 10, 40, 11, 9, 12, 0);
        int[][] odd = {{12, 10, 0, 3}};
        dueGlyphs(withSegments(odd, 0x0700, 0x0700, 0x09FF), 10, 7, 11, 9);
    }

    private static void placesInSubtable() {
        sentence("if it lies in the subtable");
        // Behind the subtable follow three numbers 7 in cmap.
        int[][] segment = {{65535, 10, 0, 2}};
        dueGlyphs(withSegments(segment, 5, 6), 10, 5, 11, 6, 12, 0, 13, 0, 14, 0, 40000, 0, 65535, 0);
        int[][] far = {{65535, 10, 0, 4}};
        dueGlyphs(withSegments(far, 5, 6), 10, 6, 11, 0, 12, 0);
        int[][] farthest = {{65535, 10, 0, 65535}};
        dueGlyphs(withSegments(farthest, 5, 6), 10, 0, 11, 0, 65535, 0);
        int[][] none = {{65535, 10, 0, 2}};
        dueGlyphs(withSegments(none), 10, 0, 11, 0);
        int[][] withDelta = {{65535, 10, 5, 2}};
        dueGlyphs(withSegments(withDelta, 4), 10, 9, 11, 0, 12, 0);
        halfInSubtable();
    }

    /** The subtable's length ends within, before or behind the number of code 11. */
    private static void halfInSubtable() {
        FontMaker maker = FontMaker.plain();
        maker.segments.clear();
        maker.segments.add(new int[] {10, 20, 0, 2});
        byte[] codes = maker.codes(1, 1, 1);
        int[][] lengths = {{25, 0, 0}, {26, 1, 0}, {27, 1, 0}, {28, 1, 1}, {29, 1, 1}};
        for (int[] l : lengths) {
            maker.tables.put("cmap", FontMaker.cmap(put(codes, 2, l[0])));
            GlyphPage page = loaded(maker);
            due("glyph(10) with a length of " + l[0], page.glyph(10), l[1]);
            due("glyph(11) with a length of " + l[0], page.glyph(11), l[2]);
        }
    }

    private static void glyphsOrAbove() {
        sentence("0 if it is GLYPHS or above");
        for (int glyphs : new int[] {1, 2, 3, 64}) {
            FontMaker maker = new FontMaker();
            while (maker.glyphs.size() < glyphs) {
                maker.add(new byte[0], 0);
            }
            maker.segments.add(new int[] {0, 65535, 0, 0});
            GlyphPage page = loaded(maker);
            due("glyph(GLYPHS - 1) of " + glyphs, page.glyph(glyphs - 1), glyphs - 1);
            due("glyph(GLYPHS) of " + glyphs, page.glyph(glyphs), 0);
            due("glyph(GLYPHS + 1) of " + glyphs, page.glyph(glyphs + 1), 0);
        }
    }

    private static void codes() {
        sentence("The glyph of a code (0 to 65535). NONE without a font; REFUSED for another code, first.");
        GlyphPage none = new GlyphPage(8, 8);
        GlyphPage page = withSegments(new int[][] {{65535, 0, 1, 0}});
        int[][] codes = {{MIN, REFUSED, REFUSED}, {-65536, REFUSED, REFUSED}, {-1, REFUSED, REFUSED},
            {0, NONE, 1}, {1, NONE, 2}, {65534, NONE, 0}, {65535, NONE, 0},
            {65536, REFUSED, REFUSED}, {65537, REFUSED, REFUSED}, {MAX, REFUSED, REFUSED}};
        for (int[] c : codes) {
            due("glyph(" + c[0] + ") without a font", none.glyph(c[0]), c[1]);
            due("glyph(" + c[0] + ")", page.glyph(c[0]), c[2]);
        }
    }
}
