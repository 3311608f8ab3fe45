import java.util.ArrayList;
import java.util.Arrays;
import java.util.List;

/**
 * The document's eighteen promises once more, in their plainest form and at any cost: what RunTest
 * holds whole runs of calls against. Files are read by Judge, windings are found by Oracle.
 */
final class PlainPage {
    private static final int REFUSED = -1, NONE = -2, FULL = -3;

    private final boolean[][] set;
    private byte[] tape = new byte[0];
    private Judge font = null;
    private int size = 16;
    private List<int[]> lines = List.of();

    PlainPage(int width, int height) {
        set = new boolean[clamped(height)][clamped(width)];
    }

    private static int clamped(int side) {
        return side < 1 ? 1 : side > 64 ? 64 : side;
    }

    int feed(int... numbers) {
        if (tape.length + 20 > 4096) {
            return FULL;
        }
        byte[] longer = Arrays.copyOf(tape, tape.length + 20);
        for (int i = 0; i < 20; i++) {
            longer[tape.length + i] = (byte) (numbers[i / 4] >> new int[] {24, 16, 8, 0}[i % 4]);
        }
        tape = longer;
        return tape.length;
    }

    int end(int n) {
        if (n < 0 || tape.length < n) {
            return REFUSED;
        }
        tape = Arrays.copyOf(tape, n);
        return n;
    }

    private byte[] emptied() {
        byte[] all = tape;
        tape = new byte[0];
        return all;
    }

    int font() {
        Judge judge = new Judge(emptied());
        int fault = judge.fault();
        font = fault == 0 ? judge : font;
        return fault;
    }

    int size(int n) {
        if (n < 4 || n > 64) {
            return REFUSED;
        }
        int was = size;
        size = n;
        return was;
    }

    int glyph(int code) {
        if (code < 0 || code > 65535) {
            return REFUSED;
        }
        return font == null ? NONE : font.glyph(code);
    }

    int metric(int what) {
        if (what < 0 || what > 4) {
            return REFUSED;
        }
        int[] none = {NONE, NONE, 0, 0, 0};
        return font == null ? none[what]
                : new int[] {font.units, font.glyphs, font.ascent, font.descent, font.gap}[what];
    }

    private boolean has(int glyph) {
        return font != null && glyph >= 0 && glyph < font.glyphs;
    }

    int look(int glyph, int what) {
        if (what < 0 || what > 2) {
            return REFUSED;
        }
        return !has(glyph) ? NONE : new int[] {font.advance(glyph), font.contours(glyph),
            font.points(glyph).size()}[what];
    }

    int point(int glyph, int k, int what) {
        if (what < 0 || what > 3) {
            return REFUSED;
        }
        if (!has(glyph) || k < 0 || k >= font.points(glyph).size()) {
            return 100000;
        }
        Judge.Point p = font.points(glyph).get(k);
        return new int[] {p.x(), p.y(), p.on() ? 1 : 0, p.contour()}[what];
    }

    int kern(int left, int right) {
        boolean numbers = left >= 0 && left <= 65535 && right >= 0 && right <= 65535;
        return font == null || !numbers ? 0 : font.kern(left, right);
    }

    private int scaled(int units) {
        return (int) Math.floorDiv(128L * size * units + font.units, 2L * font.units);
    }

    /** Contours of x, y, on as they lie on the page. */
    private int[][] outline(int glyph, int x, int y) {
        int[][] out = new int[font.contours(glyph)][];
        for (int c = 0; c < out.length; c++) {
            int contour = c;
            out[c] = font.points(glyph).stream().filter(p -> p.contour() == contour).flatMapToInt(p ->
                    Arrays.stream(new int[] {x + scaled(p.x()), y - scaled(p.y()), p.on() ? 1 : 0}))
                    .toArray();
        }
        return out;
    }

    private static boolean isFar(int v) {
        return v < -20000 || v > 20000;
    }

    private boolean isFar(int glyph, int x, int y) {
        return isFar(x) || isFar(y) || Arrays.stream(outline(glyph, x, y)).flatMapToInt(Arrays::stream)
                .anyMatch(PlainPage::isFar);
    }

    int winding(int glyph, int x, int y) {
        if (!has(glyph) || isFar(x) || isFar(y) || isFar(glyph, 0, 0)) {
            return 2000;
        }
        return new Oracle(outline(glyph, 0, 0)).windingAt(x, y);
    }

    int stamp(int glyph, int x, int y) {
        if (!has(glyph)) {
            return NONE;
        }
        if (isFar(glyph, x, y)) {
            return REFUSED;
        }
        int[][] outline = outline(glyph, x, y);
        Oracle oracle = new Oracle(outline);
        int fresh = 0;
        for (int j = 0; j < set.length; j++) {
            for (int i = 0; i < set[j].length; i++) {
                if (!set[j][i] && mayHold(outline, 64 * i + 32, 64 * j + 32)
                        && oracle.windingAt(64 * i + 32, 64 * j + 32) != 0) {
                    set[j][i] = true;
                    fresh++;
                }
            }
        }
        return fresh;
    }

    /** Spares the oracle what has no point of the outline on one of its sides. */
    private static boolean mayHold(int[][] outline, int x, int y) {
        boolean left = false;
        boolean right = false;
        boolean above = false;
        boolean below = false;
        for (int[] contour : outline) {
            for (int i = 0; i < contour.length; i += 3) {
                left |= contour[i] <= x;
                right |= contour[i] >= x;
                above |= contour[i + 1] <= y;
                below |= contour[i + 1] >= y;
            }
        }
        return left && right && above && below;
    }

    int text(int x, int y, int width) {
        if (tape.length > 200 || isFar(x) || isFar(y) || width < 0 || width > 20000) {
            return REFUSED;
        }
        byte[] text = emptied();
        if (font == null) {
            return NONE;
        }
        lines = new ArrayList<>();
        int begin = 0;
        while (begin < text.length) {
            int stop = stop(text, begin, width);
            write(text, begin, stop, new int[] {x,
                y + lines.size() * scaled(font.ascent - font.descent + font.gap)});
            lines.add(new int[] {begin, stop, width(text, begin, stop)});
            begin = stop < text.length && text[stop] == 10 ? stop + 1 : stop;
        }
        return lines.size();
    }

    /** All places where the line may end, and among them the one that the document chooses. */
    private int stop(byte[] text, int begin, int width) {
        List<Integer> stops = new ArrayList<>();
        for (int i = begin; i <= text.length; i++) {
            boolean atEnd = i == text.length;
            boolean newline = !atEnd && text[i] == 10;
            boolean behind = i > begin && (text[i - 1] == 32 || text[i - 1] == 45);
            if (newline || i > begin && atEnd || behind && !atEnd && text[i] != 32) {
                stops.add(i);
            }
            if (newline) {
                break;
            }
        }
        return stops.stream().filter(i -> width(text, begin, i) <= width)
                .reduce((a, b) -> b).orElse(stops.get(0));
    }

    private int step(byte[] text, int i) {
        return scaled(font.advance(font.glyph(text[i] & 255)));
    }

    private int kernBefore(byte[] text, int i) {
        return scaled(font.kern(font.glyph(text[i - 1] & 255), font.glyph(text[i] & 255)));
    }

    private int width(byte[] text, int begin, int stop) {
        int bare = stop;
        while (bare > begin && text[bare - 1] == 32) {
            bare--;
        }
        int sum = 0;
        for (int i = begin; i < bare; i++) {
            sum += step(text, i) + (i > begin ? kernBefore(text, i) : 0);
        }
        return sum;
    }

    private void write(byte[] text, int begin, int stop, int[] place) {
        int x = place[0];
        for (int i = begin; i < stop; i++) {
            x += i > begin ? kernBefore(text, i) : 0;
            stamp(font.glyph(text[i] & 255), x, place[1]);
            x += step(text, i);
        }
    }

    int line(int k, int what) {
        if (what < 0 || what > 2) {
            return REFUSED;
        }
        return k < 0 || k >= lines.size() ? NONE : lines.get(k)[what];
    }

    int pixel(int x, int y) {
        if (y < 0 || y >= set.length || x < 0 || x >= set[0].length) {
            return NONE;
        }
        return set[y][x] ? 1 : 0;
    }

    long row(int y) {
        long bits = 0;
        for (int x = 63; x >= 0; x--) {
            bits = 2 * bits + (pixel(x, y) == 1 ? 1 : 0);
        }
        return bits;
    }

    int inked() {
        int sum = 0;
        for (int y = 0; y < set.length; y++) {
            for (int x = 0; x < set[y].length; x++) {
                sum += pixel(x, y);
            }
        }
        return sum;
    }

    int clear() {
        int were = inked();
        for (boolean[] row : set) {
            Arrays.fill(row, false);
        }
        return were;
    }
}
