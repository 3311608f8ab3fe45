import java.nio.ByteBuffer;
import java.util.ArrayList;
import java.util.HashMap;
import java.util.List;
import java.util.Map;

/**
 * A second reading of the nine rules, plainer than the program's: what is not so is thrown, and so is
 * every read behind a table's end.
 */
final class Judge {
    private static final String[] NEEDED = {"cmap", "glyf", "head", "hhea", "hmtx", "loca", "maxp"};

    /** A point in units, and the contour that it belongs to. */
    record Point(int x, int y, boolean on, int contour) {
    }

    /** What a glyph is made of; parts are counted with those in parts. */
    private record Outline(List<Point> points, int contours, int parts, int depth) {
    }

    private static final class Broken extends RuntimeException {
        private static final long serialVersionUID = 1;
    }

    private final ByteBuffer file;
    private final Map<String, ByteBuffer> tables = new HashMap<>();
    private final List<Outline> outlines = new ArrayList<>();
    private final List<long[]> pairs = new ArrayList<>();
    private int[] places;
    private ByteBuffer codes;
    private int form;
    private int metrics;
    int units;
    int glyphs;
    int ascent;
    int descent;
    int gap;

    Judge(byte[] bytes) {
        file = ByteBuffer.wrap(bytes);
    }

    int fault() {
        Runnable[] rules = {this::directory, this::head, this::maxp, this::hhea, this::hmtx, this::loca,
            this::cmap, this::glyf, this::kern};
        for (int i = 0; i < rules.length; i++) {
            try {
                rules[i].run();
            } catch (Broken | IndexOutOfBoundsException | java.nio.BufferUnderflowException e) {
                return i + 1;
            }
        }
        return 0;
    }

    private static void must(boolean holds) {
        if (!holds) {
            throw new Broken();
        }
    }

    private static int two(ByteBuffer table, int place) {
        return Short.toUnsignedInt(table.getShort(place));
    }

    private static long four(ByteBuffer table, int place) {
        return Integer.toUnsignedLong(table.getInt(place));
    }

    private void directory() {
        must(four(file, 0) == 65536);
        int n = two(file, 4);
        must(n >= 1 && n <= 16);
        String before = "";
        for (int i = 0; i < n; i++) {
            StringBuilder tag = new StringBuilder();
            for (int k = 0; k < 4; k++) {
                tag.append((char) (file.get(12 + 16 * i + k) & 255));
            }
            must(i == 0 || tag.toString().compareTo(before) > 0);
            before = tag.toString();
            long offset = four(file, 12 + 16 * i + 8);
            long length = four(file, 12 + 16 * i + 12);
            must(offset % 4 == 0 && offset + length <= file.capacity());
            ByteBuffer table = file.slice((int) offset, (int) length);
            must(sum(table, before.equals("head")) == four(file, 12 + 16 * i + 4));
            tables.put(before, table);
        }
        for (String tag : NEEDED) {
            must(tables.containsKey(tag));
        }
    }

    private static long sum(ByteBuffer table, boolean isHead) {
        ByteBuffer padded = ByteBuffer.allocate((table.capacity() + 3) / 4 * 4);
        padded.put(table.duplicate());
        long sum = 0;
        for (int i = 0; i < padded.capacity(); i += 4) {
            sum += isHead && i == 8 ? 0 : four(padded, i);
        }
        return sum % (1L << 32);
    }

    private void head() {
        ByteBuffer head = tables.get("head");
        must(head.capacity() >= 54);
        must(four(head, 12) == 1594834165L);
        units = two(head, 18);
        form = two(head, 50);
        must(units >= 16 && units <= 16384 && form <= 1);
    }

    private void maxp() {
        ByteBuffer maxp = tables.get("maxp");
        must(maxp.capacity() >= 6);
        glyphs = two(maxp, 4);
        must(glyphs >= 1 && glyphs <= 64);
    }

    private void hhea() {
        ByteBuffer hhea = tables.get("hhea");
        must(hhea.capacity() >= 36);
        ascent = hhea.getShort(4);
        descent = hhea.getShort(6);
        gap = hhea.getShort(8);
        metrics = two(hhea, 34);
        must(Math.abs(ascent) <= 8 * units && Math.abs(descent) <= 8 * units);
        must(Math.abs(gap) <= 8 * units && metrics >= 1 && metrics <= glyphs);
    }

    private void hmtx() {
        must(tables.get("hmtx").capacity() >= 4 * metrics + 2 * (glyphs - metrics));
        for (int g = 0; g < glyphs; g++) {
            must(advance(g) <= 8 * units);
        }
    }

    int advance(int g) {
        return two(tables.get("hmtx"), g < metrics ? 4 * g : 4 * (metrics - 1));
    }

    private void loca() {
        ByteBuffer loca = tables.get("loca");
        long before = 0;
        places = new int[glyphs + 1];
        for (int g = 0; g <= glyphs; g++) {
            long place = form == 0 ? 2 * two(loca, 2 * g) : four(loca, 4 * g);
            must(place >= before && place <= tables.get("glyf").capacity());
            before = place;
            places[g] = (int) place;
        }
    }

    private void cmap() {
        ByteBuffer cmap = tables.get("cmap");
        int n = two(cmap, 2);
        must(cmap.capacity() >= 4 + 8 * n);
        for (int i = n - 1; i >= 0; i--) {
            if (two(cmap, 4 + 8 * i) == 3 && two(cmap, 6 + 8 * i) == 1) {
                codes = null;
                long offset = four(cmap, 8 + 8 * i);
                if (offset <= cmap.capacity()) {
                    codes = cmap.slice((int) offset, cmap.capacity() - (int) offset);
                }
            }
        }
        must(codes != null && two(codes, 0) == 4);
        codes = codes.slice(0, two(codes, 2));
        int doubled = two(codes, 6);
        must(doubled >= 2 && doubled % 2 == 0 && 16 + 4 * doubled <= codes.capacity());
    }

    int glyph(int code) {
        int doubled = two(codes, 6);
        for (int i = 0; i < doubled; i += 2) {
            if (two(codes, 14 + i) >= code) {
                int start = two(codes, 16 + doubled + i);
                int delta = two(codes, 16 + 2 * doubled + i);
                int range = two(codes, 16 + 3 * doubled + i);
                int place = 16 + 3 * doubled + i + range + 2 * (code - start);
                int g = code;
                if (start > code) {
                    return 0;
                }
                if (range != 0) {
                    g = place + 2 <= codes.capacity() ? two(codes, place) : 0;
                }
                g = range != 0 && g == 0 ? 0 : (g + delta) % 65536;
                return g >= glyphs ? 0 : g;
            }
        }
        return 0;
    }

    private void glyf() {
        for (int g = 0; g < glyphs; g++) {
            outlines.add(outline(g, 0));
        }
    }

    private Outline outline(int g, int level) {
        must(level < 50);
        ByteBuffer bytes = tables.get("glyf").slice(places[g], places[g + 1] - places[g]);
        if (bytes.capacity() == 0) {
            return new Outline(List.of(), 0, 0, 0);
        }
        must(bytes.capacity() >= 10);
        int contours = bytes.getShort();
        bytes.position(10);
        must(contours >= -1 && contours <= 16);
        Outline out = contours < 0 ? composite(bytes, level) : simple(bytes, contours);
        must(out.points.size() <= 256 && out.contours <= 32 && out.parts <= 40 && out.depth <= 4);
        for (Point p : out.points) {
            must(p.x == (short) p.x && p.y == (short) p.y);
        }
        return out;
    }

    private static Outline simple(ByteBuffer bytes, int contours) {
        List<Integer> contourOf = new ArrayList<>();
        for (int c = 0; c < contours; c++) {
            int last = Short.toUnsignedInt(bytes.getShort());
            must(last >= contourOf.size() && last < 128);
            while (contourOf.size() <= last) {
                contourOf.add(c);
            }
        }
        int passed = Short.toUnsignedInt(bytes.getShort());
        for (int i = 0; i < passed; i++) {
            bytes.get();
        }
        List<Integer> flags = new ArrayList<>();
        while (flags.size() < contourOf.size()) {
            int flag = bytes.get();
            int more = (flag & 8) == 0 ? 0 : Byte.toUnsignedInt(bytes.get());
            for (int i = 0; i <= more; i++) {
                flags.add(flag);
            }
        }
        must(flags.size() == contourOf.size());
        List<Integer> xs = axis(bytes, flags, 2, 16);
        List<Integer> ys = axis(bytes, flags, 4, 32);
        List<Point> points = new ArrayList<>();
        for (int i = 0; i < flags.size(); i++) {
            points.add(new Point(xs.get(i), ys.get(i), flags.get(i) % 2 != 0, contourOf.get(i)));
        }
        return new Outline(points, contours, 0, 0);
    }

    private static List<Integer> axis(ByteBuffer bytes, List<Integer> flags, int small, int other) {
        List<Integer> out = new ArrayList<>();
        int v = 0;
        for (int flag : flags) {
            boolean set = (flag & other) != 0;
            if ((flag & small) != 0) {
                v += Byte.toUnsignedInt(bytes.get()) * (set ? 1 : -1);
            } else if (!set) {
                v += bytes.getShort();
            }
            out.add(v);
        }
        return out;
    }

    private Outline composite(ByteBuffer bytes, int level) {
        List<Point> points = new ArrayList<>();
        int contours = 0;
        int parts = 0;
        int depth = 0;
        int flags = 32;
        while ((flags & 32) != 0) {
            flags = bytes.getShort();
            must((flags & 2) != 0);
            int g = Short.toUnsignedInt(bytes.getShort());
            must(g < glyphs);
            int dx = (flags & 1) != 0 ? bytes.getShort() : bytes.get();
            int dy = (flags & 1) != 0 ? bytes.getShort() : bytes.get();
            long[] m = matrix(bytes, flags);
            Outline part = outline(g, level + 1);
            for (Point p : part.points) {
                long x = Math.floorDiv(m[0] * p.x + m[2] * p.y + 8192, 16384L) + dx;
                long y = Math.floorDiv(m[1] * p.x + m[3] * p.y + 8192, 16384L) + dy;
                points.add(new Point((int) x, (int) y, p.on, contours + p.contour));
            }
            contours += part.contours;
            parts += 1 + part.parts;
            depth = Math.max(depth, 1 + part.depth);
            must(parts <= 40);
        }
        return new Outline(points, contours, parts, depth);
    }

    private static long[] matrix(ByteBuffer bytes, int flags) {
        long[] m = {16384, 0, 0, 16384};
        if ((flags & 8) != 0) {
            m[0] = bytes.getShort();
            m[3] = m[0];
        } else if ((flags & 64) != 0) {
            m[0] = bytes.getShort();
            m[3] = bytes.getShort();
        } else if ((flags & 128) != 0) {
            for (int i = 0; i < 4; i++) {
                m[i] = bytes.getShort();
            }
        }
        return m;
    }

    List<Point> points(int g) {
        return outlines.get(g).points;
    }

    int contours(int g) {
        return outlines.get(g).contours;
    }

    private void kern() {
        ByteBuffer kern = tables.get("kern");
        if (kern == null) {
            return;
        }
        int told = two(kern, 6);
        int n = two(kern, 10);
        must(two(kern, 0) == 0 && two(kern, 2) >= 1 && two(kern, 8) == 1);
        must(told >= 14 + 6 * n && told + 4 <= kern.capacity());
        for (int i = 0; i < n; i++) {
            long pair = four(kern, 18 + 6 * i);
            int value = kern.getShort(22 + 6 * i);
            must(i == 0 || pair > pairs.get(i - 1)[0]);
            must(Math.abs(value) <= 8 * units);
            pairs.add(new long[] {pair, value});
        }
    }

    int kern(int left, int right) {
        for (long[] pair : pairs) {
            if (pair[0] == left * 65536L + right) {
                return (int) pair[1];
            }
        }
        return 0;
    }
}
