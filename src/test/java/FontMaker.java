import java.io.ByteArrayOutputStream;
import java.util.ArrayList;
import java.util.Arrays;
import java.util.List;
import java.util.Map;
import java.util.TreeMap;

/** Puts font files together for the tests; what a test wants to spoil can be set by hand. */
final class FontMaker {
    int units = 1024;
    int form = 0;
    int ascent = 800;
    int descent = -200;
    int gap = 24;
    /** -1: as many as glyphs. */
    int metrics = -1;
    /** -1: as many as there are. */
    int glyphCount = -1;
    final List<byte[]> glyphs = new ArrayList<>();
    final List<Integer> advances = new ArrayList<>();
    final List<int[]> segments = new ArrayList<>();
    final List<int[]> pairs = new ArrayList<>();
    boolean withKern = false;
    /** Tables as they are to stand in the file, instead of those made from the fields. */
    final Map<String, byte[]> tables = new TreeMap<>();
    /** Tables that are left out. */
    final List<String> missing = new ArrayList<>();

    /** Bytes of 1, 2 or 4. */
    static final class Bytes {
        private final ByteArrayOutputStream out = new ByteArrayOutputStream();

        Bytes one(int... values) {
            for (int v : values) {
                out.write(v);
            }
            return this;
        }

        Bytes two(int... values) {
            for (int v : values) {
                one(v >> 8, v);
            }
            return this;
        }

        Bytes four(long... values) {
            for (long v : values) {
                two((int) (v >> 16), (int) v);
            }
            return this;
        }

        Bytes zeros(int n) {
            return one(new int[n]);
        }

        Bytes all(byte[] bytes) {
            out.writeBytes(bytes);
            return this;
        }

        byte[] done() {
            return out.toByteArray();
        }
    }

    static Bytes bytes() {
        return new Bytes();
    }

    /** A font of one empty glyph and of one square, 0 to 640, for the code 97. */
    static FontMaker plain() {
        FontMaker maker = new FontMaker();
        maker.add(new byte[0], 500);
        maker.add(simple(new int[][] {{0, 0, 1, 0, 640, 1, 640, 640, 1, 640, 0, 1}}), 700);
        maker.segments.add(new int[] {97, 97, 1 - 97, 0});
        maker.segments.add(new int[] {65535, 65535, 1, 0});
        return maker;
    }

    int add(byte[] glyph, int advance) {
        glyphs.add(glyph);
        advances.add(advance);
        return glyphs.size() - 1;
    }

    /** A simple glyph of contours x, y, on, x, y, on ... with all steps in two bytes. */
    static byte[] simple(int[][] contours) {
        Bytes ends = bytes();
        Bytes flags = bytes();
        Bytes xs = bytes();
        Bytes ys = bytes();
        int points = 0;
        int x = 0;
        int y = 0;
        for (int[] contour : contours) {
            for (int i = 0; i < contour.length; i += 3) {
                xs.two(contour[i] - x);
                ys.two(contour[i + 1] - y);
                x = contour[i];
                y = contour[i + 1];
                flags.one(contour[i + 2]);
                points++;
            }
            ends.two(points - 1);
        }
        return bytes().two(contours.length).zeros(8).all(ends.done()).two(0)
                .all(flags.done()).all(xs.done()).all(ys.done()).done();
    }

    /** A composite of bare parts: each a glyph, dx and dy. */
    static byte[] composite(int... parts) {
        Bytes out = bytes().two(-1).zeros(8);
        for (int i = 0; i < parts.length; i += 3) {
            int more = i + 3 < parts.length ? 32 : 0;
            out.two(3 + more, parts[i], parts[i + 1], parts[i + 2]);
        }
        return out.done();
    }

    byte[] head() {
        return bytes().zeros(8).four(0x12345678).four(1594834165).two(0, units).zeros(30)
                .two(form, 0).done();
    }

    int count() {
        return glyphCount < 0 ? glyphs.size() : glyphCount;
    }

    byte[] maxp() {
        return bytes().four(65536).two(count()).done();
    }

    byte[] hhea() {
        return bytes().four(65536).two(ascent, descent, gap).zeros(24)
                .two(metrics < 0 ? count() : metrics).done();
    }

    byte[] hmtx() {
        Bytes out = bytes();
        int full = metrics < 0 ? count() : metrics;
        for (int g = 0; g < glyphs.size(); g++) {
            out.two(g < full ? advances.get(g) : 77);
            if (g < full) {
                out.two(77);
            }
        }
        return out.done();
    }

    byte[] loca() {
        Bytes out = bytes();
        int place = 0;
        for (int g = 0; g <= glyphs.size(); g++) {
            if (form == 0) {
                out.two(place / 2);
            } else {
                out.four(place);
            }
            place += g < glyphs.size() ? stored(glyphs.get(g)).length : 0;
        }
        return out.done();
    }

    private byte[] stored(byte[] glyph) {
        return form == 0 && glyph.length % 2 == 1 ? bytes().all(glyph).one(0).done() : glyph;
    }

    byte[] glyf() {
        Bytes out = bytes();
        for (byte[] glyph : glyphs) {
            out.all(stored(glyph));
        }
        return out.done();
    }

    /** The subtable of the codes; tail is what RANGE may lead to. */
    byte[] codes(int... tail) {
        int s = segments.size();
        Bytes out = bytes().two(4, 16 + 8 * s + 2 * tail.length, 0, 2 * s, 0, 0, 0);
        for (int field = 0; field < 4; field++) {
            if (field == 1) {
                out.two(0);
            }
            int order = field == 0 ? 1 : field == 1 ? 0 : field;
            for (int[] segment : segments) {
                out.two(segment[order]);
            }
        }
        return out.two(tail).done();
    }

    static byte[] cmap(byte[] codes) {
        return bytes().two(0, 1, 3, 1).four(12).all(codes).done();
    }

    byte[] kern() {
        int n = pairs.size();
        Bytes out = bytes().two(0, 1, 0, 14 + 6 * n, 1, n, 0, 0, 0);
        for (int[] pair : pairs) {
            out.two(pair);
        }
        return out.done();
    }

    private void make(Map<String, byte[]> all, String tag, byte[] made) {
        all.putIfAbsent(tag, made);
    }

    Map<String, byte[]> allTables() {
        Map<String, byte[]> all = new TreeMap<>(tables);
        make(all, "head", head());
        make(all, "maxp", maxp());
        make(all, "hhea", hhea());
        make(all, "hmtx", hmtx());
        make(all, "loca", loca());
        make(all, "glyf", glyf());
        make(all, "cmap", cmap(codes()));
        if (withKern || !pairs.isEmpty()) {
            make(all, "kern", kern());
        }
        all.keySet().removeAll(missing);
        return all;
    }

    byte[] file() {
        return file(allTables());
    }

    static byte[] file(Map<String, byte[]> all) {
        Bytes directory = bytes().four(65536).two(all.size(), 1, 2, 3);
        Bytes body = bytes();
        int place = 12 + 16 * all.size();
        for (Map.Entry<String, byte[]> entry : all.entrySet()) {
            byte[] table = entry.getValue();
            directory.all(entry.getKey().getBytes(java.nio.charset.StandardCharsets.ISO_8859_1));
            directory.four(sum(table, entry.getKey().equals("head")), place, table.length);
            // 1 rather than 0: read as a part of the table, it must not look like nothing.
            int pad = (4 - table.length % 4) % 4;
            body.all(table);
            for (int i = 0; i < pad; i++) {
                body.one(1);
            }
            place += table.length + pad;
        }
        return directory.all(body.done()).done();
    }

    static long sum(byte[] table, boolean isHead) {
        long sum = 0;
        for (int i = 0; i < table.length; i++) {
            if (!isHead || i / 4 != 2) {
                sum += (table[i] & 255L) << 8 * (3 - i % 4);
            }
        }
        return sum & 0xFFFFFFFFL;
    }

    /** Feeds bytes to an empty tape; the odd ones first, so that as many go in as it can have. */
    static void feed(GlyphPage page, byte[] bytes) {
        int odd = bytes.length % 20;
        if (odd > 0) {
            feedTwenty(page, Arrays.copyOf(Arrays.copyOf(bytes, odd), 20), 0);
        }
        page.end(odd);
        for (int i = odd; i < bytes.length; i += 20) {
            feedTwenty(page, bytes, i);
        }
    }

    private static void feedTwenty(GlyphPage page, byte[] bytes, int from) {
        int[] numbers = new int[5];
        for (int k = 0; k < 20; k++) {
            numbers[k / 4] |= (bytes[from + k] & 255) << 8 * (3 - k % 4);
        }
        page.feed(numbers[0], numbers[1], numbers[2], numbers[3], numbers[4]);
    }

    int load(GlyphPage page) {
        feed(page, file());
        return page.font();
    }

    static int load(GlyphPage page, byte[] file) {
        feed(page, file);
        return page.font();
    }

    static void feed(GlyphPage page, String text) {
        feed(page, text.getBytes(java.nio.charset.StandardCharsets.ISO_8859_1));
    }
}
