import java.util.ArrayList;
import java.util.Arrays;
import java.util.List;

/** Outlines, windings, stamps and lines of many made fonts against plain second ways to them. */
public final class OracleTest {
    private static final Check CHECK = new Check();
    private static long seed = 20261115;

    /** One glyph as the oracle knows it: contours of x, y, on in units. */
    private record Made(byte[] bytes, int[][] contours) {
    }

    public static void main(String[] args) {
        int places = 0;
        for (int round = 0; round < 400; round++) {
            places += outlineRound(round);
        }
        CHECK.isTrue("many places on curves: " + places, places > 400);
        int near = 0;
        for (int round = 0; round < 200; round++) {
            near += greatRound(round);
        }
        CHECK.isTrue("many places on great curves: " + near, near > 1000);
        for (int round = 0; round < 300; round++) {
            textRound(round);
        }
        for (int round = 0; round < 200; round++) {
            partRound(round);
        }
        CHECK.finish();
    }

    private static int below(int n) {
        seed = seed * 6364136223846793005L + 1442695040888963407L;
        return (int) ((seed >>> 33) % n);
    }

    private static int between(int low, int high) {
        return low + below(high - low + 1);
    }

    private static int[][] contours(int grid, int spread, int most) {
        int[][] out = new int[between(1, 3)][];
        for (int i = 0; i < out.length; i++) {
            int n = between(1, most);
            int on = below(4);
            out[i] = new int[3 * n];
            for (int k = 0; k < n; k++) {
                out[i][3 * k] = grid * between(-spread, spread);
                out[i][3 * k + 1] = grid * between(-spread, spread);
                out[i][3 * k + 2] = on == 3 ? 1 : below(3) < on ? 1 : 0;
            }
        }
        return out;
    }

    private static int[][] onPage(int[][] contours, int units, int size, int x, int y) {
        int[][] out = new int[contours.length][];
        for (int i = 0; i < out.length; i++) {
            out[i] = contours[i].clone();
            for (int k = 0; k < out[i].length; k += 3) {
                out[i][k] = x + (int) scaled(out[i][k], units, size);
                out[i][k + 1] = y - (int) scaled(out[i][k + 1], units, size);
            }
        }
        return out;
    }

    private static long scaled(long v, int units, int size) {
        return Math.floorDiv(128L * size * v + units, 2L * units);
    }

    private static int outlineRound(int round) {
        int[] grids = {1, 8, 16, 32, 32, 64, 64, 128, 333};
        int grid = grids[below(grids.length)];
        int[][] contours = contours(grid, grid == 1 ? 40 : 8, 8);
        FontMaker maker = FontMaker.plain();
        int g = maker.add(FontMaker.simple(contours), 0);
        boolean even = below(3) > 0;
        maker.units = even ? 1024 : between(16 + 1000, 3000);
        int size = even ? 16 << below(5) / 3 : between(4, 64);
        int width = between(1, 64);
        int height = between(1, 64);
        GlyphPage page = new GlyphPage(width, height);
        CHECK.due("font in round " + round, maker.load(page), 0);
        page.size(size);
        int on = 0;
        Oracle atOrigin = new Oracle(onPage(contours, maker.units, size, 0, 0));
        int reach = grid * 10;
        for (int i = 0; i < 60; i++) {
            int x = even && i % 2 == 0 ? grid * between(-9, 9) / 2 : between(-reach, reach);
            int y = even && i % 2 == 0 ? grid * between(-9, 9) / 2 : between(-reach, reach);
            int want = atOrigin.windingAt(x, y);
            on += want == Oracle.ON_CURVE ? 1 : 0;
            CHECK.due("round " + round + " winding(" + x + ", " + y + ")",
                    page.winding(g, x, y), want);
        }
        boolean evenly = below(4) > 0;
        int x = evenly ? 32 * between(0, 64) : between(-500, 3000);
        int y = evenly ? 32 * between(0, 64) : between(-500, 3000);
        int set = page.stamp(g, x, y);
        Oracle placed = new Oracle(onPage(contours, maker.units, size, x, y));
        return on + stampRound("round " + round + " stamp at " + x + ", " + y, page, placed,
                new int[] {width, height, set});
    }

    /** Row by row: an object is good for 512 calls alone. */
    private static int stampRound(String what, GlyphPage page, Oracle oracle, int[] sides) {
        int all = 0;
        int on = 0;
        for (int j = 0; j < sides[1]; j++) {
            long want = 0;
            for (int i = 0; i < sides[0]; i++) {
                int winding = oracle.windingAt(64 * i + 32, 64 * j + 32);
                want |= winding != 0 ? 1L << i : 0;
                on += winding == Oracle.ON_CURVE ? 1 : 0;
            }
            all += Long.bitCount(want);
            CHECK.due(what + ": row(" + j + ")", page.row(j), want);
        }
        CHECK.due(what, sides[2], all);
        return on;
    }

    /** Outlines up to the last coordinate that is not refused, and places on them or near. */
    private static int greatRound(int round) {
        int[][] contours = contours(between(1, 4), 78 / 4, 6);
        FontMaker maker = FontMaker.plain();
        maker.units = 16;
        maker.ascent = 0;
        maker.descent = 0;
        maker.gap = 0;
        maker.advances.set(0, 0);
        maker.advances.set(1, 0);
        int g = maker.add(FontMaker.simple(contours), 0);
        GlyphPage page = new GlyphPage(64, 64);
        CHECK.due("font in great round " + round, maker.load(page), 0);
        page.size(64);
        int[][] placed = onPage(contours, 16, 64, 0, 0);
        Oracle oracle = new Oracle(placed);
        int on = 0;
        for (int i = 0; i < 100; i++) {
            int[] place = nearCurve(placed[below(placed.length)]);
            int want = oracle.windingAt(place[0], place[1]);
            on += want == Oracle.ON_CURVE ? 1 : 0;
            CHECK.due("great round " + round + " winding(" + place[0] + ", " + place[1] + ")",
                    page.winding(g, place[0], place[1]), want);
        }
        return on;
    }

    private static int[] nearCurve(int[] c) {
        int n = c.length / 3;
        int i = below(n);
        int before = (i + n - 1) % n;
        int after = (i + 1) % n;
        double t = below(2) == 0 ? below(65) / 64.0 : below(1025) / 1024.0;
        int[] out = new int[2];
        for (int axis = 0; axis < 2; axis++) {
            double q = c[3 * i + axis];
            double p = c[3 * before + 2] == 1 ? c[3 * before + axis] : (c[3 * before + axis] + q) / 2;
            double r = c[3 * after + 2] == 1 ? c[3 * after + axis] : (c[3 * after + axis] + q) / 2;
            double v = c[3 * i + 2] == 1 ? q + t * (r - q)
                    : (1 - t) * (1 - t) * p + 2 * t * (1 - t) * q + t * t * r;
            out[axis] = (int) Math.round(v) + (below(3) == 0 ? between(-1, 1) : 0);
        }
        return out;
    }

    private static void textRound(int round) {
        FontMaker maker = new FontMaker();
        maker.units = between(500, 2000);
        maker.gap = between(-300, 300);
        int glyphs = between(3, 7);
        for (int g = 0; g < glyphs; g++) {
            maker.add(FontMaker.simple(contours(40, 12, 5)), between(0, 900));
        }
        maker.segments.add(new int[] {10, 10, 0, 0});
        maker.segments.add(new int[] {32, 32, 65536 - 31, 0});
        maker.segments.add(new int[] {45, 45, 65536 - 43, 0});
        maker.segments.add(new int[] {97, 110, 65536 - 97 + 2, 0});
        for (int l = 0; l < glyphs; l++) {
            for (int r = 0; r < glyphs; r++) {
                if (below(3) == 0) {
                    maker.pairs.add(new int[] {l, r, between(-800, 500)});
                }
            }
        }
        int size = between(4, 30);
        GlyphPage page = new GlyphPage(64, 64);
        GlyphPage stamps = new GlyphPage(64, 64);
        CHECK.due("font in text round " + round, maker.load(page), 0);
        maker.load(stamps);
        page.size(size);
        stamps.size(size);
        String signs = "\n  --abcdefghijklmn";
        StringBuilder text = new StringBuilder();
        for (int i = between(0, 60); i > 0; i--) {
            text.append(signs.charAt(below(signs.length())));
        }
        int width = between(0, 3000);
        FontMaker.feed(page, text.toString());
        int count = page.text(7, 300, width);
        List<int[]> lines = lines(text.toString(), maker, size, width);
        CHECK.due("text round " + round, count, lines.size());
        long drop = scaled(maker.ascent - maker.descent + maker.gap, maker.units, size);
        for (int k = 0; k < lines.size(); k++) {
            int[] line = lines.get(k);
            for (int what = 0; what < 3; what++) {
                CHECK.due("text round " + round + " line(" + k + ", " + what + ")",
                        page.line(k, what), line[what]);
            }
            write(stamps, text.substring(line[0], line[1]), maker, size, (int) (300 + k * drop));
        }
        for (int j = 0; j < 64; j++) {
            CHECK.due("text round " + round + " row " + j, page.row(j), stamps.row(j));
        }
    }

    private static void write(GlyphPage page, String line, FontMaker maker, int size, int y) {
        int x = 7;
        for (int i = 0; i < line.length(); i++) {
            x += i > 0 ? kern(maker, line.charAt(i - 1), line.charAt(i), size) : 0;
            page.stamp(glyph(maker, line.charAt(i)), x, y);
            x += step(maker, line.charAt(i), size);
        }
    }

    /** As the segments of textRound have it. */
    private static int glyph(FontMaker maker, char c) {
        int g = c == ' ' ? 1 : c == '-' ? 2 : c >= 'a' ? c - 'a' + 2 : 0;
        return g < maker.glyphs.size() ? g : 0;
    }

    private static int step(FontMaker maker, char c, int size) {
        return (int) scaled(maker.advances.get(glyph(maker, c)), maker.units, size);
    }

    private static int kern(FontMaker maker, char a, char b, int size) {
        for (int[] pair : maker.pairs) {
            if (pair[0] == glyph(maker, a) && pair[1] == glyph(maker, b)) {
                return (int) scaled(pair[2], maker.units, size);
            }
        }
        return 0;
    }

    private static int width(String line, FontMaker maker, int size) {
        String bare = line;
        while (bare.endsWith(" ")) {
            bare = bare.substring(0, bare.length() - 1);
        }
        int width = 0;
        for (int i = 0; i < bare.length(); i++) {
            width += step(maker, bare.charAt(i), size);
            width += i > 0 ? kern(maker, bare.charAt(i - 1), bare.charAt(i), size) : 0;
        }
        return width;
    }

    private static List<int[]> lines(String text, FontMaker maker, int size, int width) {
        List<int[]> out = new ArrayList<>();
        int begin = 0;
        while (begin < text.length()) {
            int best = -1;
            int few = -1;
            for (int end = text.length(); end >= begin; end--) {
                String line = text.substring(begin, end);
                boolean newline = end < text.length() && text.charAt(end) == '\n';
                boolean may = end == text.length() || newline
                        || (line.endsWith(" ") || line.endsWith("-")) && text.charAt(end) != ' ';
                if (!may || line.contains("\n") || line.isEmpty() && !newline) {
                    continue;
                }
                few = end;
                if (best < 0 && width(line, maker, size) <= width) {
                    best = end;
                }
            }
            int end = best < 0 ? few : best;
            out.add(new int[] {begin, end, width(text.substring(begin, end), maker, size)});
            begin = end < text.length() && text.charAt(end) == '\n' ? end + 1 : end;
        }
        return out;
    }

    /** A simple glyph with each step told in a way that is drawn among those that can tell it. */
    private static Made drawn(int[][] contours) {
        FontMaker.Bytes ends = FontMaker.bytes();
        FontMaker.Bytes xs = FontMaker.bytes();
        FontMaker.Bytes ys = FontMaker.bytes();
        List<Integer> flags = new ArrayList<>();
        int x = 0;
        int y = 0;
        for (int[] contour : contours) {
            for (int k = 0; k < contour.length; k += 3) {
                int flag = contour[k + 2] + step(xs, contour[k] - x, 2, 16)
                        + step(ys, contour[k + 1] - y, 4, 32);
                x = contour[k];
                y = contour[k + 1];
                flags.add(flag + 64 * below(4));
            }
            ends.two(flags.size() - 1);
        }
        int skipped = below(4);
        FontMaker.Bytes out = FontMaker.bytes().two(contours.length).zeros(8).all(ends.done())
                .two(skipped).zeros(skipped);
        for (int i = 0; i < flags.size(); ) {
            int again = 0;
            while (i + again + 1 < flags.size() && flags.get(i + again + 1).equals(flags.get(i))
                    && below(4) > 0) {
                again++;
            }
            out.one(flags.get(i) + (again > 0 ? 8 : 0));
            if (again > 0) {
                out.one(again);
            }
            i += again + 1;
        }
        return new Made(out.all(xs.done()).all(ys.done()).done(), contours);
    }

    private static int step(FontMaker.Bytes out, int step, int shortBit, int sameBit) {
        if (step == 0 && below(2) == 0) {
            return sameBit;
        }
        if (Math.abs(step) < 256 && below(4) > 0) {
            out.one(Math.abs(step));
            return shortBit + (step > 0 || step == 0 && below(2) == 0 ? sameBit : 0);
        }
        out.two(step);
        return 0;
    }

    private static Made composed(List<Made> before) {
        FontMaker.Bytes out = FontMaker.bytes().two(-1).zeros(8);
        List<int[]> contours = new ArrayList<>();
        int n = between(1, 3);
        for (int i = 0; i < n; i++) {
            int g = below(before.size());
            boolean words = below(2) == 0;
            int dx = words ? between(-500, 500) : between(-128, 127);
            int dy = words ? between(-500, 500) : between(-128, 127);
            int[] m = {16384, 0, 0, 16384};
            int kind = below(4);
            int flags = 2 + (words ? 1 : 0) + (i < n - 1 ? 32 : 0) + new int[] {0, 8, 64, 128}[kind];
            out.two(flags + 512 * below(8), g);
            if (words) {
                out.two(dx, dy);
            } else {
                out.one(dx, dy);
            }
            if (kind == 1) {
                m[0] = between(-32768, 32767);
                m[3] = m[0];
                out.two(m[0]);
            } else if (kind == 2) {
                m[0] = between(-32768, 32767);
                m[3] = between(-32768, 32767);
                out.two(m[0], m[3]);
            } else if (kind == 3) {
                for (int k = 0; k < 4; k++) {
                    m[k] = between(-20000, 20000);
                }
                out.two(m);
            }
            for (int[] contour : before.get(g).contours()) {
                contours.add(moved(contour, m, dx, dy));
            }
        }
        return new Made(out.done(), contours.toArray(new int[0][]));
    }

    private static int[] moved(int[] contour, int[] m, int dx, int dy) {
        int[] out = contour.clone();
        for (int k = 0; k < out.length; k += 3) {
            long x = contour[k];
            long y = contour[k + 1];
            out[k] = (int) Math.floorDiv(m[0] * x + m[2] * y + 8192, 16384L) + dx;
            out[k + 1] = (int) Math.floorDiv(m[1] * x + m[3] * y + 8192, 16384L) + dy;
        }
        return out;
    }

    private static void partRound(int round) {
        FontMaker maker = new FontMaker();
        maker.form = below(2);
        List<Made> glyphs = new ArrayList<>();
        for (int g = 0; g < 4; g++) {
            glyphs.add(drawn(contours(between(1, 60), 5, 5)));
        }
        for (int g = 0; g < 3; g++) {
            glyphs.add(composed(glyphs.subList(0, Math.min(glyphs.size(), 4 + g))));
        }
        for (Made made : glyphs) {
            maker.add(made.bytes(), 100);
        }
        maker.segments.add(new int[] {65535, 65535, 1, 0});
        int fault = maker.load(new GlyphPage(8, 8));
        boolean tooMany = glyphs.stream().anyMatch(made -> made.contours().length > 32
                || Arrays.stream(made.contours()).mapToInt(c -> c.length / 3).sum() > 256);
        CHECK.due("font in part round " + round, fault, tooMany ? 8 : 0);
        if (fault == 0) {
            for (int g = 0; g < glyphs.size(); g++) {
                for (int what = 0; what < 4; what++) {
                    duePoints("part round " + round, maker, new int[] {g, what},
                            glyphs.get(g).contours());
                }
            }
        }
    }

    /** With a page for each of the four questions: an object is good for 512 calls alone. */
    private static void duePoints(String round, FontMaker maker, int[] asked, int[][] contours) {
        GlyphPage page = new GlyphPage(8, 8);
        maker.load(page);
        int g = asked[0];
        int what = asked[1];
        int k = 0;
        for (int c = 0; c < contours.length; c++) {
            for (int i = 0; i < contours[c].length; i += 3) {
                CHECK.due(round + " point(" + g + ", " + k + ", " + what + ")",
                        page.point(g, k, what), what == 3 ? c : contours[c][i + what]);
                k++;
            }
        }
        CHECK.due(round + " points of " + g, page.look(g, 2), k);
        CHECK.due(round + " contours of " + g, page.look(g, 1), contours.length);
    }
}
