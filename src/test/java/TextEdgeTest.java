/** Promises 13 and 14, with TEXT, LINES and WIDTH. */
public final class TextEdgeTest extends Edges {
    public static void main(String[] args) {
        tapeOfText();
        placesOfText();
        widthsOfText();
        refusedLeavesAll();
        noneWithoutFont();
        refusedFirst();
        noBytes();
        newlineAtTheEnd();
        whereLinesMayEnd();
        widthAtTheEdge();
        asFewAsItCan();
        asManyAsItCan();
        noBytesBeforeNewline();
        spacesAtTheEnd();
        kernsOfNeighbours();
        eachScaled();
        drops();
        dropScaledOnce();
        placesInLine();
        notStamped();
        bytesAreCodes();
        mostLines();
        lineNumbers();
        latestText();
        CHECK.finish();
    }

    private static int text(GlyphPage page, String text, int width) {
        FontMaker.feed(page, text);
        return page.text(0, 640, width);
    }

    private static String name(String text, int width) {
        return "'" + text.replace("\n", "\\n") + "' in " + width + ": ";
    }

    /** begin, end, width of each line. */
    private static void dueLines(FontMaker maker, String text, int width, int... want) {
        GlyphPage page = loaded(maker);
        String name = name(text, width);
        due(name + "lines", text(page, text, width), want.length / 3);
        for (int i = 0; i < want.length; i++) {
            due(name + "line(" + i / 3 + ", " + i % 3 + ")", page.line(i / 3, i % 3), want[i]);
        }
        due(name + "no more line", page.line(want.length / 3, 0), NONE);
    }

    /** With the plain font: a is 700 wide, all else 500. */
    private static void dueLines(String text, int width, int... want) {
        dueLines(FontMaker.plain(), text, width, want);
    }

    private static void tapeOfText() {
        sentence("REFUSED (then the TAPE stays) if the TAPE has more than 200 bytes");
        for (int n = 199; n <= 201; n++) {
            GlyphPage page = loaded(FontMaker.plain());
            due("text of " + n + " bytes", text(page, "a".repeat(n), 20000), n > 200 ? REFUSED : 1);
            due("the tape of " + n + " bytes", page.end(n), n > 200 ? n : REFUSED);
            due("the line of " + n + " bytes", page.line(0, 1), n > 200 ? NONE : n);
            due("pixels of " + n + " bytes", Math.min(1, page.inked()), n > 200 ? 0 : 1);
        }
        GlyphPage full = loaded(FontMaker.plain());
        due("text of 4096 bytes", text(full, "a".repeat(4096), 0), REFUSED);
        due("the tape", full.end(4096), 4096);
        due("cut to 200", full.end(200), 200);
        due("text of its first 200 bytes", full.text(0, 0, 0), 1);
    }

    private static void dueAt(int x, int y, int width, boolean refused) {
        GlyphPage page = loaded(FontMaker.plain(), 8, 8);
        FontMaker.feed(page, "a");
        String call = "text(" + x + ", " + y + ", " + width + ")";
        due(call, page.text(x, y, width), refused ? REFUSED : 1);
        due(call + ", the tape after it", page.end(1), refused ? 1 : REFUSED);
    }

    private static void placesOfText() {
        sentence("or x or y is not -20000 to 20000");
        for (int v : new int[] {MIN, -20001, -20000, -19999, 0, 19999, 20000, 20001, MAX}) {
            boolean refused = v < -20000 || v > 20000;
            dueAt(v, 0, 0, refused);
            dueAt(0, v, 0, refused);
            dueAt(v, v, 0, refused);
        }
    }

    private static void widthsOfText() {
        sentence("or width not 0 to 20000");
        for (int v : new int[] {MIN, -20000, -1, 0, 1, 19999, 20000, 20001, MAX}) {
            dueAt(0, 0, v, v < 0 || v > 20000);
        }
    }

    private static void refusedLeavesAll() {
        sentence("REFUSED (then the TAPE stays)");
        GlyphPage page = loaded(FontMaker.plain());
        due("text", text(page, "a\naa", 20000), 2);
        int inked = page.inked();
        FontMaker.feed(page, "aaa");
        int[][] bad = {{20001, 640, 0}, {0, 20001, 0}, {0, 640, 20001}, {0, 640, -1}, {-20001, 640, 0}};
        for (int[] b : bad) {
            due("text", page.text(b[0], b[1], b[2]), REFUSED);
            due("the lines stay", page.line(1, 1), 4);
            due("no third line", page.line(2, 1), NONE);
            due("the page stays", page.inked(), inked);
        }
        due("the tape stays", page.text(0, 640, 20000), 1);
        due("its line", page.line(0, 1), 3);
    }

    private static void noneWithoutFont() {
        sentence("NONE: the TAPE is empty, the lines of the latest text stay.");
        GlyphPage page = new GlyphPage(8, 8);
        FontMaker.feed(page, "a\na");
        due("text", page.text(0, 0, 0), NONE);
        due("the tape is empty", page.end(1), REFUSED);
        due("no line", page.line(0, 0), NONE);
        due("no pixel", page.inked(), 0);
        due("text of no bytes", page.text(0, 0, 0), NONE);
        FontMaker.feed(page, "a".repeat(200));
        due("text of 200 bytes", page.text(-20000, 20000, 20000), NONE);
        due("the tape is empty", page.end(1), REFUSED);
    }

    private static void refusedFirst() {
        sentence("REFUSED ... first.");
        GlyphPage page = new GlyphPage(8, 8);
        FontMaker.feed(page, "a".repeat(201));
        due("201 bytes without a font", page.text(0, 0, 0), REFUSED);
        due("the tape stays", page.end(200), 200);
        due("x 20001 without a font", page.text(20001, 0, 0), REFUSED);
        due("y -20001 without a font", page.text(0, -20001, 0), REFUSED);
        due("width -1 without a font", page.text(0, 0, -1), REFUSED);
        due("the tape stays", page.end(200), 200);
        due("200 bytes without a font", page.text(0, 0, 0), NONE);
        due("x 20001 of no bytes", page.text(20001, 0, 0), REFUSED);
        GlyphPage with = loaded(FontMaker.plain());
        due("x 20001 of no bytes with a font", with.text(20001, 0, 0), REFUSED);
        due("width 20001 of no bytes with a font", with.text(0, 0, 20001), REFUSED);
    }

    private static void noBytes() {
        sentence("0 for no bytes");
        GlyphPage page = loaded(FontMaker.plain());
        due("text of no bytes", page.text(0, 0, 100), 0);
        due("no line", page.line(0, 0), NONE);
        due("text", text(page, "a\na", 100), 2);
        due("its line", page.line(1, 0), 2);
        due("text of no bytes", page.text(0, 0, 0), 0);
        due("no line any more", page.line(0, 0), NONE);
        due("text", text(page, "a", 100), 1);
        due("one line alone", page.line(1, 0), NONE);
    }

    private static void newlineAtTheEnd() {
        sentence("a byte 10 at the end begins no more line");
        dueLines("a", 20000, 0, 1, 700);
        dueLines("a\n", 20000, 0, 1, 700);
        dueLines("a\n\n", 20000, 0, 1, 700, 2, 2, 0);
        dueLines("a\n\n\n", 20000, 0, 1, 700, 2, 2, 0, 3, 3, 0);
        dueLines("a\n ", 20000, 0, 1, 700, 2, 3, 0);
        dueLines("\n", 20000, 0, 0, 0);
        dueLines("\n\n", 20000, 0, 0, 0, 1, 1, 0);
        dueLines("\na", 20000, 0, 0, 0, 1, 2, 700);
    }

    /** With a width of 0 every place where a line may end is taken. */
    private static void whereLinesMayEnd() {
        sentence("a line may end at the end, before a byte 10 (which belongs to no line), and behind a "
                + "byte 32 or 45 that is before none of 32 or 10");
        dueLines("aaaa", 0, 0, 4, 2800);
        dueLines("aa a", 0, 0, 3, 1400, 3, 4, 700);
        dueLines("aa-a", 0, 0, 3, 1900, 3, 4, 700);
        dueLines("aa\na", 0, 0, 2, 1400, 3, 4, 700);
        dueLines("a  a", 0, 0, 3, 700, 3, 4, 700);
        dueLines("a - a", 0, 0, 2, 700, 2, 4, 500, 4, 5, 700);
        dueLines("a- a", 0, 0, 3, 1200, 3, 4, 700);
        dueLines("a -a", 0, 0, 2, 700, 2, 3, 500, 3, 4, 700);
        dueLines("a--a", 0, 0, 2, 1200, 2, 3, 500, 3, 4, 700);
        dueLines("a \na", 0, 0, 2, 700, 3, 4, 700);
        dueLines("a-\na", 0, 0, 2, 1200, 3, 4, 700);
        dueLines("a  \na", 0, 0, 3, 700, 4, 5, 700);
        dueLines("a- \na", 0, 0, 3, 1200, 4, 5, 700);
        dueLines("a\n a", 0, 0, 1, 700, 2, 3, 0, 3, 4, 700);
        dueLines("a\n-a", 0, 0, 1, 700, 2, 3, 500, 3, 4, 700);
        dueLines("a\n\na", 0, 0, 1, 700, 2, 2, 0, 3, 4, 700);
        dueLines("a ", 0, 0, 2, 700);
        dueLines("a-", 0, 0, 2, 1200);
        dueLines("a  ", 0, 0, 3, 700);
        dueLines("a --", 0, 0, 2, 700, 2, 3, 500, 3, 4, 500);
        dueLines(" a", 0, 0, 1, 0, 1, 2, 700);
        dueLines("-a", 0, 0, 1, 500, 1, 2, 700);
        dueLines("  a", 0, 0, 2, 0, 2, 3, 700);
        dueLines(" -a", 0, 0, 1, 0, 1, 2, 500, 2, 3, 700);
        dueLines("- a", 0, 0, 2, 500, 2, 3, 700);
        // No other byte ends a line, not those next to these, nor one that differs in its highest bit.
        dueLines("a\u000ba\u0009a\u0021a\u001fa\u002ca\u002ea\u008aa\u00a0a\u00ada\r", 0, 0, 20,
                10 * 700 + 10 * 500);
    }

    private static void widthAtTheEdge() {
        sentence("as many bytes as it can with a width that is not above what is asked");
        dueLines("a a", 1899, 0, 2, 700, 2, 3, 700);
        dueLines("a a", 1900, 0, 3, 1900);
        dueLines("a a", 1901, 0, 3, 1900);
        dueLines("a-a a", 1199, 0, 2, 1200, 2, 4, 700, 4, 5, 700);
        dueLines("a-a a", 1200, 0, 2, 1200, 2, 4, 700, 4, 5, 700);
        dueLines("a-a a", 1899, 0, 2, 1200, 2, 4, 700, 4, 5, 700);
        dueLines("a-a a", 1900, 0, 4, 1900, 4, 5, 700);
        dueLines("a-a a", 3099, 0, 4, 1900, 4, 5, 700);
        dueLines("a-a a", 3100, 0, 5, 3100);
        dueLines("a a\na", 1899, 0, 2, 700, 2, 3, 700, 4, 5, 700);
        dueLines("a a\na", 1900, 0, 3, 1900, 4, 5, 700);
        dueLines("a\na", 20000, 0, 1, 700, 2, 3, 700);
    }

    private static void asFewAsItCan() {
        sentence("or, if none is, as few as it can (one or more");
        dueLines("aa aa", 1399, 0, 3, 1400, 3, 5, 1400);
        dueLines("aa aa", 1400, 0, 3, 1400, 3, 5, 1400);
        dueLines("aa-aa-a", 0, 0, 3, 1900, 3, 6, 1900, 6, 7, 700);
        dueLines("a", 0, 0, 1, 700);
        dueLines("a", 699, 0, 1, 700);
        dueLines("aaaaa\na", 699, 0, 5, 3500, 6, 7, 700);
        dueLines("aaaaa   a", 699, 0, 8, 3500, 8, 9, 700);
        // A line that is as few as it can does not make the next one so.
        dueLines("aaa a a", 1900, 0, 4, 2100, 4, 7, 1900);
    }

    /** A kern may make more bytes narrower: all places count, not those before the first too wide. */
    private static void asManyAsItCan() {
        sentence("Each line has as many bytes as it can");
        FontMaker maker = FontMaker.plain();
        maker.segments.add(0, new int[] {45, 45, 2 - 45, 0});
        maker.add(new byte[0], 500);
        maker.pairs.add(new int[] {2, 1, -2000});
        dueLines(maker, "a-a-", 400, 0, 4, 400);
        dueLines(maker, "a-a-", 399, 0, 2, 1200, 2, 4, 1200);
        dueLines(maker, "a-a", 0, 0, 3, -100);
        dueLines(maker, "a-a-a", 0, 0, 5, -900);
        dueLines(maker, "a-a\n-a", 0, 0, 3, -100, 4, 6, -800);
    }

    private static void noBytesBeforeNewline() {
        sentence("but before a byte 10 none is enough");
        dueLines("\na", 0, 0, 0, 0, 1, 2, 700);
        dueLines("\n\n\na", 20000, 0, 0, 0, 1, 1, 0, 2, 2, 0, 3, 4, 700);
        dueLines("a \n\n a", 0, 0, 2, 700, 3, 3, 0, 4, 5, 0, 5, 6, 700);
        dueLines("a a\n", 1000, 0, 2, 700, 2, 3, 700);
        dueLines("a-\n\n", 1000, 0, 2, 1200, 3, 3, 0);
    }

    private static void spacesAtTheEnd() {
        sentence("WIDTH of bytes: ... without bytes 32 at their end");
        dueLines("a ", 699, 0, 2, 700);
        dueLines("a a ", 1900, 0, 4, 1900);
        dueLines("a a    a", 1900, 0, 7, 1900, 7, 8, 700);
        dueLines("a a    a", 4600, 0, 8, 4600);
        dueLines("a a    a", 4599, 0, 7, 1900, 7, 8, 700);
        dueLines("    ", 0, 0, 4, 0);
        dueLines(" ", 0, 0, 1, 0);
        dueLines("  a", 1700, 0, 3, 1700);
        dueLines("  a", 1699, 0, 2, 0, 2, 3, 700);
        dueLines("a- ", 1200, 0, 3, 1200);
        // A byte with the glyph of 32 is not a byte 32.
        dueLines("a!!", 20000, 0, 3, 1700);
        // A byte 32 may have an outline and is stamped, also at the end.
        FontMaker inked = FontMaker.plain();
        inked.segments.add(0, new int[] {32, 32, 1 - 32, 0});
        GlyphPage page = loaded(inked);
        due("lines", text(page, "  ", 0), 1);
        due("two squares", page.inked(), 200);
        due("width", page.line(0, 2), 0);
    }

    private static void kernsOfNeighbours() {
        sentence("all advances and the kerns of neighbours");
        FontMaker maker = FontMaker.plain();
        maker.segments.add(0, new int[] {32, 32, 2 - 32, 0});
        maker.add(new byte[0], 500);
        maker.pairs.add(new int[] {1, 1, -100});
        maker.pairs.add(new int[] {1, 2, 30});
        maker.pairs.add(new int[] {2, 1, 7});
        maker.pairs.add(new int[] {2, 2, 1});
        dueLines(maker, "a", 20000, 0, 1, 700);
        dueLines(maker, "aa", 20000, 0, 2, 1300);
        dueLines(maker, "aaa", 20000, 0, 3, 1900);
        dueLines(maker, "a ", 20000, 0, 2, 700);
        dueLines(maker, "a a", 20000, 0, 3, 1937);
        dueLines(maker, "a  a", 20000, 0, 4, 2438);
        dueLines(maker, " a", 20000, 0, 2, 1207);
        // No kern over the end of a line, whichever way it ends.
        dueLines(maker, "aa aa", 1300, 0, 3, 1300, 3, 5, 1300);
        dueLines(maker, "aa\naa", 20000, 0, 2, 1300, 3, 5, 1300);
        dueLines(maker, "a a", 1936, 0, 2, 700, 2, 3, 700);
        dueLines(maker, "a a", 1937, 0, 3, 1937);
    }

    private static void eachScaled() {
        sentence("each scaled as above");
        FontMaker maker = FontMaker.plain();
        maker.units = 2048;
        maker.advances.set(1, 1);
        maker.pairs.add(new int[] {1, 1, -1});
        // 1 unit is half a 64th, which is 1; -1 unit is 0.
        dueLines(maker, "aaaa", 20000, 0, 4, 4);
        maker.pairs.set(0, new int[] {1, 1, 1});
        dueLines(maker, "aaaa", 20000, 0, 4, 7);
        maker.pairs.set(0, new int[] {1, 1, -2});
        dueLines(maker, "aaaa", 20000, 0, 4, 1);
        maker.pairs.set(0, new int[] {1, 1, -3});
        dueLines(maker, "aaaa", 20000, 0, 4, 1);
        maker.pairs.set(0, new int[] {1, 1, -4});
        dueLines(maker, "aaaa", 20000, 0, 4, -2);
        GlyphPage page = loaded(FontMaker.plain());
        page.size(64);
        due("text", text(page, "aa", 20000), 1);
        due("width in size 64", page.line(0, 2), 5600);
        page.size(4);
        due("text", text(page, "aa", 20000), 1);
        due("width in size 4", page.line(0, 2), 350);
    }

    private static FontMaker withDrop(int ascent, int descent, int gap) {
        FontMaker maker = FontMaker.plain();
        maker.ascent = ascent;
        maker.descent = descent;
        maker.gap = gap;
        maker.glyphs.set(1, FontMaker.simple(new int[][] {{0, 0, 1}}));
        return maker;
    }

    /** Three dots, one a line; x is that of the first column's centres. */
    private static void dueDots(FontMaker maker, int y, int... rows) {
        GlyphPage page = loaded(maker);
        FontMaker.feed(page, "a\na\na");
        due("lines", page.text(32, y, 0), 3);
        for (int row : rows) {
            due("row(" + row + ")", page.row(row), 1);
        }
        due("inked", page.inked(), rows.length);
    }

    private static void drops() {
        sentence("the first at (x, y), each next one lower by ASCENT - DESCENT + GAP, scaled");
        dueDots(withDrop(64, 0, 0), 32, 0, 1, 2);
        dueDots(withDrop(0, -64, 0), 32, 0, 1, 2);
        dueDots(withDrop(0, 0, 64), 32, 0, 1, 2);
        dueDots(withDrop(100, -50, 42), 32, 0, 3, 6);
        dueDots(withDrop(0, 0, 0), 32, 0);
        dueDots(withDrop(-64, 0, 0), 160, 0, 1, 2);
        dueDots(withDrop(0, 128, 0), 96, 1);
        dueDots(withDrop(0, 64, 128), 96, 1, 2, 3);
        dueDots(withDrop(65, 0, 0), 32, 0);
        GlyphPage page = loaded(withDrop(64, 0, 0));
        FontMaker.feed(page, "\n\na\n\n\na");
        due("lines without bytes", page.text(32, 32, 0), 6);
        due("row(2)", page.row(2), 1);
        due("row(5)", page.row(5), 1);
        due("inked", page.inked(), 2);
    }

    private static void dropScaledOnce() {
        sentence("ASCENT - DESCENT + GAP, scaled");
        // In 2048 units 127 are 63.5, which is 64; 63 and 64 are 31.5, which is 32, and 32.
        FontMaker sum = withDrop(63, 0, 64);
        sum.units = 2048;
        dueDots(sum, 32, 0, 1, 2);
        FontMaker less = withDrop(64, 0, 64);
        less.units = 2048;
        dueDots(less, 32, 0, 1, 2);
        FontMaker parted = withDrop(63, 0, 63);
        parted.units = 2048;
        dueDots(parted, 32, 0);
        // -127 are -63.5, which is -63: the second line is not on a centre.
        FontMaker up = withDrop(-127, 0, 0);
        up.units = 2048;
        dueDots(up, 160, 2);
        FontMaker upMore = withDrop(-129, 0, 0);
        upMore.units = 2048;
        dueDots(upMore, 160, 0, 1, 2);
    }

    private static void placesInLine() {
        sentence("from x on, each as far behind the one before as that one's advance and the kern of the "
                + "two");
        FontMaker maker = FontMaker.plain();
        maker.segments.set(0, new int[] {97, 98, 1 - 97, 0});
        maker.glyphs.set(1, FontMaker.simple(new int[][] {{0, 0, 1}}));
        maker.advances.set(1, 128);
        maker.add(FontMaker.simple(new int[][] {{0, 0, 1}}), 64);
        maker.pairs.add(new int[] {1, 1, 64});
        maker.pairs.add(new int[] {1, 2, -64});
        maker.pairs.add(new int[] {2, 1, 192});
        dueRow(maker, "a", 32, 1L);
        dueRow(maker, "b", 32, 1L);
        dueRow(maker, "aa", 32, 1L | 1L << 3);
        dueRow(maker, "ab", 32, 1L | 1L << 1);
        dueRow(maker, "ba", 32, 1L | 1L << 4);
        dueRow(maker, "bb", 32, 1L | 1L << 1);
        dueRow(maker, "aaba", 32, 1L | 1L << 3 | 1L << 4 | 1L << 8);
        dueRow(maker, "aa", 33, 0);
        dueRow(maker, "aa", -160, 1L);
        // A kern may lead back behind the one before.
        maker.pairs.set(0, new int[] {1, 1, -192});
        dueRow(maker, "aaa", 160, 7L);
        sentence("each line begins at x");
        GlyphPage page = loaded(maker);
        FontMaker.feed(page, "ab\nab");
        due("lines", page.text(96, 32, 20000), 2);
        due("the first line", page.row(0), 6);
        due("the second line, 1024 lower", page.row(16), 6);
    }

    private static void dueRow(FontMaker maker, String text, int x, long want) {
        GlyphPage page = loaded(maker);
        FontMaker.feed(page, text);
        due("lines", page.text(x, 32, 20000), 1);
        due("'" + text + "' at " + x + ": row(0)", page.row(0), want);
        due("'" + text + "' at " + x + ": inked", page.inked(), Long.bitCount(want));
    }

    private static void notStamped() {
        sentence("each byte's glyph is stamped (not those that are REFUSED) ... (Also behind one that is "
                + "not stamped");
        FontMaker maker = FontMaker.plain();
        maker.segments.set(0, new int[] {97, 98, 1 - 97, 0});
        maker.glyphs.set(1, FontMaker.simple(new int[][] {{0, 0, 1}}));
        maker.advances.set(1, 64);
        maker.add(FontMaker.simple(new int[][] {{0, 0, 1, 30000, 0, 1}}), 128);
        maker.pairs.add(new int[] {1, 2, 64});
        dueRow(maker, "aba", 32, 1L | 1L << 4);
        dueRow(maker, "b", 32, 0);
        dueRow(maker, "ba", 32, 1L << 2);
        farPlaces();
        farLines();
    }

    private static int[] box(int left, int low, int right, int high) {
        return new int[] {left, low, 1, left, high, 1, right, high, 1, right, low, 1};
    }

    private static void dueFar(FontMaker maker, String text, int x, int y, int inked) {
        GlyphPage page = loaded(maker, 2, 2);
        FontMaker.feed(page, text);
        due(name(text, 20000) + "text(" + x + ", " + y + ")", page.text(x, y, 20000),
                text.contains("\n") ? 2 : 1);
        due(name(text, 20000) + "inked at " + x + ", " + y, page.inked(), inked);
    }

    /** b, c, d and e reach a page of 2 times 2 pixels from 20000 and -20000, in x and in y. */
    private static void farPlaces() {
        sentence("not those that are REFUSED");
        FontMaker maker = FontMaker.plain();
        maker.segments.set(0, new int[] {97, 101, 1 - 97, 0});
        maker.glyphs.set(1, new byte[0]);
        maker.advances.set(1, 8000);
        maker.ascent = 8000;
        maker.descent = 0;
        maker.gap = 0;
        maker.add(FontMaker.simple(new int[][] {box(-20000, -128, 0, 0)}), 0);
        maker.add(FontMaker.simple(new int[][] {box(0, -128, 20100, 0)}), 0);
        maker.add(FontMaker.simple(new int[][] {box(0, 0, 128, 20000)}), 0);
        maker.add(FontMaker.simple(new int[][] {box(0, -20100, 128, 0)}), 0);
        maker.pairs.add(new int[] {1, 3, -8000});
        dueFar(maker, "ab", 11999, 0, 4);
        dueFar(maker, "ab", 12000, 0, 4);
        dueFar(maker, "ab", 12001, 0, 0);
        dueFar(maker, "ac", -19999, 0, 4);
        dueFar(maker, "ac", -20000, 0, 4);
        maker.pairs.set(0, new int[] {1, 3, -8001});
        dueFar(maker, "ac", -19999, 0, 4);
        dueFar(maker, "ac", -20000, 0, 0);
        dueFar(maker, "a\nd", 0, 11999, 4);
        dueFar(maker, "a\nd", 0, 12000, 4);
        dueFar(maker, "a\nd", 0, 12001, 0);
        maker.ascent = -8000;
        dueFar(maker, "a\ne", 0, -11999, 4);
        dueFar(maker, "a\ne", 0, -12000, 4);
        dueFar(maker, "a\ne", 0, -12001, 0);
        sentence("Also behind one that is not stamped");
        dueFar(maker, "c", 0, 0, 0);
        maker.pairs.set(0, new int[] {3, 3, -99});
        dueFar(maker, "cc", 0, 0, 0);
        maker.pairs.set(0, new int[] {3, 3, -100});
        dueFar(maker, "cc", 0, 0, 4);
    }

    /** Lines from above -20000 and below 20000 come and go, and are lines all the same. */
    private static void farLines() {
        sentence("not those that are REFUSED");
        FontMaker maker = withDrop(8192, 0, 0);
        GlyphPage page = loaded(maker);
        FontMaker.feed(page, "a\n".repeat(100));
        due("lines down to 811032", page.text(32, 32, 0), 100);
        due("the first alone is on the page", page.inked(), 1);
        page.clear();
        FontMaker.feed(page, "a\n".repeat(100));
        due("lines from -16352", page.text(32, -16352, 0), 100);
        due("the third alone is on the page", page.inked(), 1);
        due("the last line", page.line(99, 1), 199);
        FontMaker up = withDrop(-8192, 0, 0);
        GlyphPage upwards = loaded(up);
        FontMaker.feed(upwards, "a\n".repeat(100));
        due("lines up", upwards.text(32, 16416, 0), 100);
        due("the third alone is on the page", upwards.inked(), 1);
    }

    private static void bytesAreCodes() {
        sentence("TEXT: bytes; codes.");
        FontMaker maker = FontMaker.plain();
        maker.segments.clear();
        maker.segments.add(new int[] {0, 0, 1, 0});
        maker.segments.add(new int[] {127, 127, 1 - 127, 0});
        maker.segments.add(new int[] {128, 128, 1 - 128, 0});
        maker.segments.add(new int[] {255, 255, 1 - 255, 0});
        maker.segments.add(new int[] {65535, 65408, 1 - 65408, 0});
        int[][] want = {{0, 700}, {1, 500}, {126, 500}, {127, 700}, {128, 700}, {129, 500}, {254, 500},
            {255, 700}, {97, 500}};
        for (int[] w : want) {
            dueLines(maker, "" + (char) w[0], 20000, 0, 1, w[1]);
        }
        // A byte 10 belongs to no line, so its glyph is not stamped.
        FontMaker newline = FontMaker.plain();
        newline.segments.add(0, new int[] {10, 10, 1 - 10, 0});
        GlyphPage page = loaded(newline);
        due("lines", text(page, "\n\n", 20000), 2);
        due("inked", page.inked(), 0);
        due("width", page.line(0, 2), 0);
    }

    private static void mostLines() {
        sentence("How many lines.");
        GlyphPage page = loaded(FontMaker.plain());
        due("200 bytes 10", text(page, "\n".repeat(200), 0), 200);
        due("the last line", page.line(199, 0), 199);
        due("no more line", page.line(200, 0), NONE);
        due("200 bytes 45", text(page, "-".repeat(200), 0), 200);
        due("the last line", page.line(199, 1), 200);
        due("200 bytes 32", text(page, " ".repeat(200), 0), 1);
        due("the line", page.line(0, 1), 200);
        due("199 bytes 10 and one", text(page, "\n".repeat(199) + "a", 0), 200);
        due("the last line", page.line(199, 2), 700);
    }

    private static void lineNumbers() {
        sentence("what 0: where it begins, 1: where it ends (the place behind), 2: its width ... NONE if "
                + "there is none; REFUSED for another what, first.");
        GlyphPage none = new GlyphPage(8, 8);
        GlyphPage page = loaded(FontMaker.plain());
        due("text", text(page, "aa a\n-", 1400), 3);
        int[][] want = {{0, 3, 1400}, {3, 4, 700}, {5, 6, 500}};
        for (int what : new int[] {MIN, -1, 0, 1, 2, 3, MAX}) {
            boolean other = what < 0 || what > 2;
            for (int k : new int[] {MIN, -1, 0, 1, 2, 3, 200, 65536, MAX}) {
                int due = other ? REFUSED : k < 0 || k > 2 ? NONE : want[k][what];
                due("line(" + k + ", " + what + ")", page.line(k, what), due);
                due("line(" + k + ", " + what + ") without a text", none.line(k, what),
                        other ? REFUSED : NONE);
            }
        }
    }

    private static void latestText() {
        sentence("Of line k, from 0, of the latest text that was not NONE or REFUSED");
        GlyphPage page = loaded(FontMaker.plain());
        due("text", text(page, "a\naa\naaa", 20000), 3);
        due("text", text(page, "aaaa\na", 20000), 2);
        due("the latest text", page.line(0, 2), 2800);
        due("its last line", page.line(1, 1), 6);
        due("no line of the one before", page.line(2, 1), NONE);
        FontMaker.feed(page, "a".repeat(201));
        due("text", page.text(0, 0, 0), REFUSED);
        due("the latest text but the refused one", page.line(0, 2), 2800);
        page.size(64);
        due("after size", page.line(0, 2), 2800);
        due("a bad font", page.font(), DIRECTORY);
        due("after a bad font", page.line(0, 2), 2800);
        FontMaker other = FontMaker.plain();
        other.advances.set(1, 1);
        due("another font", other.load(page), GOOD);
        due("after another font", page.line(0, 2), 2800);
        page.clear();
        due("after clear", page.line(1, 1), 6);
    }
}
