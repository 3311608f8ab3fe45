import java.util.Arrays;
import java.util.Map;

/**
 * Runs of up to 512 calls in any order on one object, each answer against that of PlainPage: what a call
 * leaves behind (tape, font, size, lines, pixels) is seen by all that come after it.
 */
public final class RunTest {
    private static final Check CHECK = new Check();
    private static final int RUNS = 400, CALLS = 512;
    private static final int[] EDGES = {Integer.MIN_VALUE, -65536, -20001, -20000, -2, -1, 0, 1, 2, 3, 4, 5,
        10, 16, 63, 64, 65, 199, 200, 201, 255, 4095, 4096, 4097, 19999, 20000, 20001, 65535, 65536,
        Integer.MAX_VALUE};
    private static final String SIGNS = "\n\n    ---abcdefghabcdefgh\u00e9\u0000";
    private static final int[] SEEN = new int[20];
    private static long seed = 20261116;

    private final String name;
    private final GlyphPage page;
    private final PlainPage plain;
    /** What is still to be fed to the tape, in twenties. */
    private byte[] waiting = new byte[0];
    private int fed = 0;
    private boolean isFile = false;
    private int step = 0;

    private RunTest(int run) {
        name = "run " + run + ", call ";
        int width = below(4) == 0 ? any() : between(1, 24);
        int height = below(4) == 0 ? any() : between(1, 24);
        page = new GlyphPage(width, height);
        plain = new PlainPage(width, height);
    }

    public static void main(String[] args) {
        for (int run = 0; run < RUNS; run++) {
            RunTest test = new RunTest(run);
            // Some steps are two calls, and no object is asked more than its 512.
            while (test.step < CALLS - 1) {
                test.call();
            }
        }
        System.out.println("files by fault, full tapes, texts (REFUSED, NONE, 0, 1, more lines), windings "
                + "(0, on a curve, others, 2000): " + Arrays.toString(SEEN));
        for (int kind = 0; kind < SEEN.length; kind++) {
            CHECK.isTrue("many of kind " + kind, SEEN[kind] > 10);
        }
        CHECK.finish();
    }

    private static int below(int n) {
        seed = seed * 6364136223846793005L + 1442695040888963407L;
        return (int) ((seed >>> 33) % n);
    }

    private static int between(int low, int high) {
        return low + below(high - low + 1);
    }

    private static int any() {
        return EDGES[below(EDGES.length)];
    }

    /** Mostly a number that the call can use. */
    private static int mostly(int low, int high) {
        return below(12) == 0 ? any() : between(low, high);
    }

    private void due(String call, long got, long want) {
        step++;
        CHECK.due(name + step + ": " + call, got, want);
    }

    private void call() {
        if (waiting.length > fed) {
            feedMore();
        } else if (waiting.length > 0) {
            useTape();
        } else {
            int kind = below(100);
            if (kind < 8) {
                prepare();
            } else if (kind < 40) {
                askFont(kind % 6);
            } else if (kind < 60) {
                askOutline(kind % 5);
            } else if (kind < 94) {
                askPage(kind % 6);
            } else {
                strayTape(kind);
            }
        }
    }

    private void prepare() {
        int kind = below(10);
        isFile = kind < 3 || plain.metric(0) == GlyphPage.NONE && below(2) == 0;
        if (below(5) > 0) {
            due("end(0)", page.end(0), plain.end(0));
        }
        if (isFile) {
            waiting = file();
        } else if (kind < 9) {
            waiting = text(below(6) == 0 ? between(195, 205) : between(0, 60));
        } else {
            waiting = new byte[below(4) == 0 ? 4096 : 300];
        }
        fed = 0;
    }

    /** The odd bytes come first, as a tape that is nearly full takes no more twenty. */
    private void feedMore() {
        int odd = waiting.length % 20;
        byte[] twenty = Arrays.copyOfRange(waiting, fed, fed + 20);
        feed(twenty);
        fed += fed == 0 && odd > 0 ? odd : 20;
        if (fed == odd) {
            due("end(" + odd + ")", page.end(odd), plain.end(odd));
        }
    }

    private void feed(byte[] twenty) {
        int[] n = new int[5];
        for (int k = 0; k < 20; k++) {
            n[k / 4] |= (twenty[k] & 255) << 8 * (3 - k % 4);
        }
        int want = plain.feed(n);
        SEEN[10] += want == GlyphPage.FULL ? 1 : 0;
        due("feed", page.feed(n[0], n[1], n[2], n[3], n[4]), want);
    }

    private void useTape() {
        waiting = new byte[0];
        if (isFile || below(20) == 0) {
            readFont();
        } else {
            writeText();
        }
    }

    private void readFont() {
        int want = plain.font();
        SEEN[want]++;
        due("font()", page.font(), want);
    }

    private void writeText() {
        int x = mostly(-300, 600);
        int y = mostly(-100, 900);
        int width = mostly(0, 2500);
        int want = plain.text(x, y, width);
        SEEN[want == GlyphPage.REFUSED ? 11 : want == GlyphPage.NONE ? 12 : 13 + Math.min(want, 2)]++;
        due("text(" + x + ", " + y + ", " + width + ")", page.text(x, y, width), want);
    }

    private void askFont(int kind) {
        int g = mostly(0, 9);
        int k = mostly(0, 12);
        int what = mostly(0, 4);
        if (kind == 0) {
            int code = below(2) == 0 ? mostly(90, 110) : mostly(0, 65535);
            due("glyph(" + code + ")", page.glyph(code), plain.glyph(code));
        } else if (kind == 1) {
            due("metric(" + what + ")", page.metric(what), plain.metric(what));
        } else if (kind == 2) {
            due("look(" + g + ", " + what + ")", page.look(g, what), plain.look(g, what));
        } else if (kind == 3 || kind == 4) {
            due("point(" + g + ", " + k + ", " + what + ")", page.point(g, k, what),
                    plain.point(g, k, what));
        } else {
            int right = mostly(0, 9);
            due("kern(" + g + ", " + right + ")", page.kern(g, right), plain.kern(g, right));
        }
    }

    private void askOutline(int kind) {
        int g = mostly(0, 6);
        int x = below(2) == 0 ? 32 * between(-4, 24) : mostly(-300, 900);
        int y = below(2) == 0 ? 32 * between(-24, 24) : mostly(-900, 900);
        if (kind < 3) {
            int k = below(12);
            if (below(3) == 0 && plain.point(g, k, 0) != 100000) {
                // With 1024 UNITS and SIZE 16 a unit is a 64th, so this is a point of the outline.
                x = plain.point(g, k, 0);
                y = -plain.point(g, k, 1);
            }
            int want = plain.winding(g, x, y);
            SEEN[want == 0 ? 16 : want == 1000 ? 17 : want == 2000 ? 19 : 18]++;
            due("winding(" + g + ", " + x + ", " + y + ")", page.winding(g, x, y), want);
        } else if (kind == 3) {
            due("stamp(" + g + ", " + x + ", " + y + ")", page.stamp(g, x, y), plain.stamp(g, x, y));
        } else {
            int n = below(4) == 0 ? any() : below(4) == 0 ? between(4, 24) : 16;
            due("size(" + n + ")", page.size(n), plain.size(n));
        }
    }

    private void askPage(int kind) {
        int x = mostly(-1, 24);
        int y = mostly(-1, 24);
        int what = mostly(0, 2);
        if (kind == 0 || kind == 1) {
            due("line(" + y / 2 + ", " + what + ")", page.line(y / 2, what), plain.line(y / 2, what));
        } else if (kind == 2) {
            due("pixel(" + x + ", " + y + ")", page.pixel(x, y), plain.pixel(x, y));
        } else if (kind == 3 || kind == 4) {
            due("row(" + y + ")", page.row(y), plain.row(y));
        } else if (below(4) > 0) {
            due("inked()", page.inked(), plain.inked());
        } else {
            due("clear()", page.clear(), plain.clear());
        }
    }

    /** Calls that meet whatever the tape has just then. */
    private void strayTape(int kind) {
        if (kind < 96) {
            feed(text(20));
        } else if (kind < 98) {
            int n = mostly(0, 40);
            due("end(" + n + ")", page.end(n), plain.end(n));
        } else if (below(3) == 0) {
            readFont();
        } else {
            writeText();
        }
    }

    private static byte[] text(int length) {
        byte[] out = new byte[length];
        for (int i = 0; i < length; i++) {
            out[i] = (byte) SIGNS.charAt(below(SIGNS.length()));
        }
        return out;
    }

    private static byte[] file() {
        Map<String, byte[]> tables = maker().allTables();
        if (below(2) == 0) {
            String[] tags = tables.keySet().toArray(new String[0]);
            String tag = tags[below(tags.length)];
            tables.put(tag, spoilt(tables.get(tag)));
        }
        byte[] file = FontMaker.file(tables);
        if (below(8) == 0) {
            file[below(200)] ^= 1;
        }
        return file;
    }

    private static byte[] spoilt(byte[] table) {
        if (table.length == 0) {
            return new byte[2];
        }
        int place = below(table.length);
        byte[] out = table.clone();
        out[place] = (byte) (below(2) == 0 ? below(256) : out[place] + between(-1, 1));
        return below(4) == 0 ? Arrays.copyOf(out, place) : out;
    }

    /** Few glyphs on a coarse grid, so that centres of pixels often lie on a curve. */
    private static FontMaker maker() {
        FontMaker maker = new FontMaker();
        maker.units = below(3) > 0 ? 1024 : between(500, 1500);
        maker.form = below(2);
        maker.gap = between(-300, 300);
        int glyphs = between(2, 5);
        for (int g = 0; g < glyphs; g++) {
            maker.add(below(6) == 0 ? new byte[0] : FontMaker.simple(contours()), 32 * below(25));
        }
        for (int g = below(3); g > 0; g--) {
            maker.add(parts(maker.glyphs.size()), 32 * below(25));
        }
        maker.metrics = between(1, maker.glyphs.size());
        maker.segments.add(new int[] {32, 32, 65536 - 31, 0});
        maker.segments.add(new int[] {97, 104, 65536 - 97, 0});
        maker.segments.add(new int[] {200, 65535, 65536 - 230, 0});
        for (int left = 0; left < maker.glyphs.size(); left++) {
            for (int right = 0; right < 3; right++) {
                if (below(4) == 0) {
                    maker.pairs.add(new int[] {left, right, between(-500, 200)});
                }
            }
        }
        return maker;
    }

    private static int[][] contours() {
        int[][] out = new int[between(1, 2)][];
        for (int c = 0; c < out.length; c++) {
            out[c] = new int[3 * between(1, 6)];
            for (int k = 0; k < out[c].length; k += 3) {
                out[c][k] = 32 * between(-4, 24);
                out[c][k + 1] = 32 * between(-8, 24);
                out[c][k + 2] = below(5) < 3 ? 1 : 0;
            }
        }
        return out;
    }

    private static byte[] parts(int before) {
        FontMaker.Bytes out = FontMaker.bytes().two(-1).zeros(8);
        int n = between(1, 3);
        for (int i = 1; i <= n; i++) {
            int kind = below(4);
            out.two(3 + (i < n ? 32 : 0) + new int[] {0, 8, 64, 128}[kind], below(before),
                    32 * between(-6, 6), 32 * between(-6, 6));
            for (int k = new int[] {0, 1, 2, 4}[kind]; k > 0; k--) {
                out.two(8192 * between(-3, 3));
            }
        }
        return out.done();
    }
}
