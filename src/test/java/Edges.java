/** What the tests of the document's edges share: each of them names the words that it is about. */
class Edges {
    static final Check CHECK = new Check();
    static final int MIN = Integer.MIN_VALUE, MAX = Integer.MAX_VALUE;
    static final int REFUSED = GlyphPage.REFUSED, NONE = GlyphPage.NONE, FULL = GlyphPage.FULL;
    static final int GOOD = 0, DIRECTORY = 1, HEAD = 2, MAXP = 3, HHEA = 4, HMTX = 5, LOCA = 6,
            CMAP = 7, GLYF = 8, KERN = 9;

    static void sentence(String words) {
        CHECK.sentence(words);
    }

    static void due(String call, long got, long want) {
        CHECK.due(call, got, want);
    }

    static FontMaker.Bytes bytes() {
        return FontMaker.bytes();
    }

    static byte[] put(byte[] bytes, int place, int two) {
        byte[] out = bytes.clone();
        out[place] = (byte) (two >> 8);
        out[place + 1] = (byte) two;
        return out;
    }

    static byte[] putFour(byte[] bytes, int place, long four) {
        return put(put(bytes, place, (int) (four >> 16)), place + 2, (int) four);
    }

    static byte[] putOne(byte[] bytes, int place, int one) {
        byte[] out = bytes.clone();
        out[place] = (byte) one;
        return out;
    }

    /** The first bytes, with zeros behind them if there are fewer. */
    static byte[] cut(byte[] bytes, int length) {
        return java.util.Arrays.copyOf(bytes, length);
    }

    /** The file on a tape becomes the font just when it has no fault. */
    static void judged(String what, byte[] file, int fault) {
        GlyphPage page = new GlyphPage(8, 8);
        due(what, FontMaker.load(page, file), fault);
        CHECK.isTrue(what + ": a font after it", page.metric(1) == NONE == (fault != GOOD));
    }

    static void judged(String what, FontMaker maker, int fault) {
        judged(what, maker.file(), fault);
    }

    /** The plain file with one table of it as told. */
    static void judgedWith(String tag, byte[] table, String what, int fault) {
        FontMaker maker = FontMaker.plain();
        maker.tables.put(tag, table);
        judged(tag + ": " + what, maker, fault);
    }

    static GlyphPage loaded(FontMaker maker) {
        return loaded(maker, 64, 64);
    }

    static GlyphPage loaded(FontMaker maker, int width, int height) {
        GlyphPage page = new GlyphPage(width, height);
        due("font", maker.load(page), GOOD);
        return page;
    }
}
