import java.util.Arrays;

/** Text from a font file to a bitmap; ../shared/DOC.md numbers what each call promises. */
public final class GlyphPage {
    public static final int REFUSED = -1, NONE = -2, FULL = -3;

    private static final int TAPE_LIMIT = 4096;
    private static final int TEXT_LIMIT = 200;
    private static final int FAR = 20000;
    private static final int NO_POINT = 100000;
    private static final int NO_WINDING = 2000;

    private final Page page;
    private final Shape shape = new Shape();
    private final Curves curves = new Curves();
    private final Lines lines = new Lines();
    private byte[] tape = new byte[TAPE_LIMIT];
    /** A font keeps the array that it was fed in, so the tape needs another to go on in. */
    private byte[] spare = new byte[TAPE_LIMIT];
    private int tapeLength = 0;
    private FontFile face = null;
    private int pixels = 16;

    public GlyphPage(int width, int height) {
        page = new Page(Math.max(1, Math.min(64, width)), Math.max(1, Math.min(64, height)));
    }

    public int feed(int a, int b, int c, int d, int e) {
        if (tapeLength + 20 > TAPE_LIMIT) {
            return FULL;
        }
        append(a);
        append(b);
        append(c);
        append(d);
        append(e);
        return tapeLength;
    }

    public int end(int n) {
        if (n < 0 || n > tapeLength) {
            return REFUSED;
        }
        tapeLength = n;
        return n;
    }

    public int font() {
        FontFile file = new FontFile(tape, tapeLength);
        int fault = file.fault(shape);
        tapeLength = 0;
        if (fault == 0) {
            byte[] free = spare;
            spare = tape;
            tape = free;
            face = file;
        }
        return fault;
    }

    public int size(int n) {
        if (n < 4 || n > 64) {
            return REFUSED;
        }
        int before = pixels;
        pixels = n;
        return before;
    }

    public int glyph(int code) {
        if (code < 0 || code > 65535) {
            return REFUSED;
        }
        return face == null ? NONE : face.glyphOf(code);
    }

    public int metric(int what) {
        if (what < 0 || what > 4) {
            return REFUSED;
        }
        if (face == null) {
            return what < 2 ? NONE : 0;
        }
        switch (what) {
            case 0: return face.units;
            case 1: return face.glyphs;
            case 2: return face.ascent;
            case 3: return face.descent;
            default: return face.gap;
        }
    }

    public int look(int glyph, int what) {
        if (what < 0 || what > 2) {
            return REFUSED;
        }
        if (!takesShape(glyph)) {
            return NONE;
        }
        if (what == 0) {
            return face.advanceOf(glyph);
        }
        return what == 1 ? shape.contours : shape.points;
    }

    public int point(int glyph, int k, int what) {
        if (what < 0 || what > 3) {
            return REFUSED;
        }
        if (!takesShape(glyph) || k < 0 || k >= shape.points) {
            return NO_POINT;
        }
        switch (what) {
            case 0: return shape.xs[k];
            case 1: return shape.ys[k];
            case 2: return shape.on[k] ? 1 : 0;
            default: return shape.contourOf(k);
        }
    }

    public int kern(int left, int right) {
        return face == null ? 0 : face.kernOf(left, right);
    }

    public int winding(int glyph, int x, int y) {
        if (!takesShape(glyph) || !Curves.isNear(x) || !Curves.isNear(y)
                || !curves.trace(shape, face, pixels, 0, 0)) {
            return NO_WINDING;
        }
        return curves.windingAt(2 * x, 2 * y);
    }

    public int stamp(int glyph, int x, int y) {
        return takesShape(glyph) ? ink(x, y) : NONE;
    }

    public int text(int x, int y, int width) {
        if (tapeLength > TEXT_LIMIT || !Curves.isNear(x) || !Curves.isNear(y)
                || width < 0 || width > FAR) {
            return REFUSED;
        }
        int length = tapeLength;
        tapeLength = 0;
        if (face == null) {
            return NONE;
        }
        lines.measure(face, pixels, tape, length);
        lines.part(tape, length, width);
        int drop = face.scaled(face.ascent - face.descent + face.gap, pixels);
        for (int k = 0; k < lines.count; k++) {
            int first = lines.begins[k];
            for (int i = first; i < lines.ends[k]; i++) {
                if (takesShape(lines.glyphs[i])) {
                    ink(x + lines.places[i] - lines.places[first], y + k * drop);
                }
            }
        }
        return lines.count;
    }

    public int line(int k, int what) {
        if (what < 0 || what > 2) {
            return REFUSED;
        }
        if (k < 0 || k >= lines.count) {
            return NONE;
        }
        if (what == 0) {
            return lines.begins[k];
        }
        return what == 1 ? lines.ends[k] : lines.widths[k];
    }

    public int pixel(int x, int y) {
        if (x < 0 || x >= page.width || y < 0 || y >= page.height) {
            return NONE;
        }
        return (int) (page.rows[y] >>> x & 1);
    }

    public long row(int y) {
        return y < 0 || y >= page.height ? 0 : page.rows[y];
    }

    public int inked() {
        return page.countSet();
    }

    public int clear() {
        int before = page.countSet();
        page.wipe();
        return before;
    }

    private void append(int number) {
        for (int shift = 24; shift >= 0; shift -= 8) {
            if (tapeLength < TAPE_LIMIT) {
                tape[tapeLength++] = (byte) (number >> shift);
            }
        }
    }

    private boolean takesShape(int glyph) {
        return face != null && glyph >= 0 && glyph < face.glyphs && shape.assemble(face, glyph);
    }

    /** Inks the shape that was taken last. */
    private int ink(int x, int y) {
        if (!Curves.isNear(x) || !Curves.isNear(y) || !curves.trace(shape, face, pixels, x, y)) {
            return REFUSED;
        }
        return page.fill(curves);
    }

    /** The bytes of a file and what its tables say; nothing holds before fault() has answered 0. */
    private static final class FontFile {
        private static final int CMAP = 0, GLYF = 1, HEAD = 2, HHEA = 3, HMTX = 4, LOCA = 5,
                MAXP = 6, KERN = 7, TABLES = 8;
        private static final int[] TAGS = {
            0x636D6170, 0x676C7966, 0x68656164, 0x68686561,
            0x686D7478, 0x6C6F6361, 0x6D617870, 0x6B65726E};
        private static final int MAGIC = 1594834165;
        private static final int GLYPH_LIMIT = 64;

        final byte[] bytes;
        final int length;
        final int[] starts = new int[TABLES];
        /** -1 for a table that is not there. */
        final int[] sizes = new int[TABLES];
        /** Where in the file each glyph begins and the one before ends. */
        final int[] glyphStarts = new int[GLYPH_LIMIT + 1];
        int units = 16;
        int glyphs = 0;
        int ascent = 0;
        int descent = 0;
        int gap = 0;
        private boolean longLoca = false;
        private int metrics = 1;
        private int codes = 0;
        private int codesSize = 0;
        private int segments = 0;
        private int pairs = 0;

        FontFile(byte[] bytes, int length) {
            this.bytes = bytes;
            this.length = length;
            Arrays.fill(sizes, -1);
        }

        int fault(Shape shape) {
            if (!readDirectory()) {
                return 1;
            }
            if (!readHead()) {
                return 2;
            }
            if (!readMaxp()) {
                return 3;
            }
            if (!readHhea()) {
                return 4;
            }
            if (!hmtxIsSound()) {
                return 5;
            }
            if (!locaIsSound()) {
                return 6;
            }
            if (!readCmap()) {
                return 7;
            }
            if (!glyfIsSound(shape)) {
                return 8;
            }
            return readKern() ? 0 : 9;
        }

        private int twoAt(int place) {
            if (place < 0 || place + 1 >= length) {
                return 0;
            }
            return (bytes[place] & 255) << 8 | bytes[place + 1] & 255;
        }

        private int signedAt(int place) {
            return (short) twoAt(place);
        }

        private long fourAt(int place) {
            return (long) twoAt(place) << 16 | twoAt(place + 2);
        }

        private boolean readDirectory() {
            int n = twoAt(4);
            if (n < 1 || n > 16 || 12 + 16 * n > length || fourAt(0) != 65536) {
                return false;
            }
            long before = -1;
            for (int i = 0; i < n; i++) {
                long tag = fourAt(12 + 16 * i);
                if (tag <= before || !readEntry(12 + 16 * i, tag)) {
                    return false;
                }
                before = tag;
            }
            for (int t = 0; t < KERN; t++) {
                if (sizes[t] < 0) {
                    return false;
                }
            }
            return true;
        }

        private boolean readEntry(int entry, long tag) {
            long start = fourAt(entry + 8);
            long size = fourAt(entry + 12);
            if (start % 4 != 0 || start + size > length
                    || sum((int) start, (int) size, tag == TAGS[HEAD]) != fourAt(entry + 4)) {
                return false;
            }
            for (int t = 0; t < TABLES; t++) {
                if (tag == TAGS[t]) {
                    starts[t] = (int) start;
                    sizes[t] = (int) size;
                }
            }
            return true;
        }

        /** In head the bytes 8 to 11 hold a sum over the file, which can't be summed itself. */
        private long sum(int start, int size, boolean isHead) {
            int sum = 0;
            for (int i = 0; i < size && start + i < length; i++) {
                if (!isHead || i < 8 || i > 11) {
                    sum += (bytes[start + i] & 255) << 24 - 8 * (i & 3);
                }
            }
            return sum & 0xFFFFFFFFL;
        }

        private boolean readHead() {
            int head = starts[HEAD];
            if (sizes[HEAD] < 54 || fourAt(head + 12) != MAGIC) {
                return false;
            }
            units = twoAt(head + 18);
            longLoca = twoAt(head + 50) == 1;
            return units >= 16 && units <= 16384 && twoAt(head + 50) <= 1;
        }

        private boolean readMaxp() {
            glyphs = twoAt(starts[MAXP] + 4);
            return sizes[MAXP] >= 6 && glyphs >= 1 && glyphs <= GLYPH_LIMIT;
        }

        private boolean readHhea() {
            int hhea = starts[HHEA];
            ascent = signedAt(hhea + 4);
            descent = signedAt(hhea + 6);
            gap = signedAt(hhea + 8);
            metrics = twoAt(hhea + 34);
            return sizes[HHEA] >= 36 && isModest(ascent) && isModest(descent) && isModest(gap)
                    && metrics >= 1 && metrics <= glyphs;
        }

        private boolean isModest(int v) {
            return v >= -8 * units && v <= 8 * units;
        }

        private boolean hmtxIsSound() {
            if (sizes[HMTX] < 4 * metrics + 2 * (glyphs - metrics)) {
                return false;
            }
            for (int g = 0; g < metrics; g++) {
                if (!isModest(advanceOf(g))) {
                    return false;
                }
            }
            return true;
        }

        int advanceOf(int g) {
            return twoAt(starts[HMTX] + 4 * Math.min(g, metrics - 1));
        }

        private boolean locaIsSound() {
            if (sizes[LOCA] < (glyphs + 1) * (longLoca ? 4 : 2)) {
                return false;
            }
            long before = 0;
            for (int g = 0; g <= glyphs; g++) {
                long place = locaAt(g);
                if (place < before) {
                    return false;
                }
                before = place;
                glyphStarts[g] = starts[GLYF] + (int) place;
            }
            return before <= sizes[GLYF];
        }

        private long locaAt(int g) {
            int loca = starts[LOCA];
            return longLoca ? fourAt(loca + 4 * g) : 2L * twoAt(loca + 2 * g);
        }

        private boolean readCmap() {
            int cmap = starts[CMAP];
            int n = twoAt(cmap + 2);
            if (sizes[CMAP] < 4 || 4 + 8 * n > sizes[CMAP]) {
                return false;
            }
            for (int i = 0; i < n; i++) {
                int entry = cmap + 4 + 8 * i;
                if (twoAt(entry) == 3 && twoAt(entry + 2) == 1) {
                    return readCodes(fourAt(entry + 4));
                }
            }
            return false;
        }

        private boolean readCodes(long offset) {
            if (offset + 8 > sizes[CMAP]) {
                return false;
            }
            codes = starts[CMAP] + (int) offset;
            codesSize = twoAt(codes + 2);
            int doubled = twoAt(codes + 6);
            segments = doubled / 2;
            return twoAt(codes) == 4 && offset + codesSize <= sizes[CMAP]
                    && doubled % 2 == 0 && segments >= 1 && 16 + 8 * segments <= codesSize;
        }

        int glyphOf(int code) {
            for (int i = 0; i < segments; i++) {
                if (twoAt(codes + 14 + 2 * i) >= code) {
                    int g = glyphInSegment(i, code);
                    return g < glyphs ? g : 0;
                }
            }
            return 0;
        }

        private int glyphInSegment(int i, int code) {
            int start = twoAt(codes + 16 + 2 * segments + 2 * i);
            int delta = twoAt(codes + 16 + 4 * segments + 2 * i);
            int rangePlace = 16 + 6 * segments + 2 * i;
            int range = twoAt(codes + rangePlace);
            if (start > code) {
                return 0;
            }
            if (range == 0) {
                return code + delta & 65535;
            }
            int place = rangePlace + range + 2 * (code - start);
            int told = place + 2 <= codesSize ? twoAt(codes + place) : 0;
            return told == 0 ? 0 : told + delta & 65535;
        }

        private boolean glyfIsSound(Shape shape) {
            for (int g = 0; g < glyphs; g++) {
                if (!shape.assemble(this, g)) {
                    return false;
                }
            }
            return true;
        }

        private boolean readKern() {
            if (sizes[KERN] < 0) {
                return true;
            }
            int table = starts[KERN];
            int told = twoAt(table + 6);
            int n = twoAt(table + 10);
            if (sizes[KERN] < 18 || twoAt(table) != 0 || twoAt(table + 2) < 1
                    || twoAt(table + 8) != 1 || told < 14 + 6 * n || 4 + told > sizes[KERN]) {
                return false;
            }
            long before = -1;
            for (int i = 0; i < n; i++) {
                if (pairAt(i) <= before || !isModest(signedAt(table + 22 + 6 * i))) {
                    return false;
                }
                before = pairAt(i);
            }
            pairs = n;
            return true;
        }

        private long pairAt(int i) {
            return fourAt(starts[KERN] + 18 + 6 * i);
        }

        int kernOf(int left, int right) {
            if (left < 0 || left > 65535 || right < 0 || right > 65535) {
                return 0;
            }
            long sought = (long) left << 16 | right;
            int below = 0;
            for (int step = 1024; step > 0; step /= 2) {
                if (below + step <= pairs && pairAt(below + step - 1) < sought) {
                    below += step;
                }
            }
            boolean found = below < pairs && pairAt(below) == sought;
            return found ? signedAt(starts[KERN] + 22 + 6 * below) : 0;
        }

        int scaled(int v, int pixels) {
            return (int) Math.floorDiv(128L * pixels * v + units, 2L * units);
        }
    }

    /** Goes through the bytes of one glyph and remembers whether it was asked for more. */
    private static final class Reader {
        private byte[] bytes = null;
        private int place = 0;
        private int limit = 0;
        private boolean whole = true;

        void open(FontFile file, int from, int to) {
            bytes = file.bytes;
            place = Math.max(0, from);
            limit = Math.min(to, file.length);
            whole = true;
        }

        boolean isWhole() {
            return whole;
        }

        void skip(int n) {
            if (n > limit - place) {
                whole = false;
            } else {
                place += n;
            }
        }

        int one() {
            if (bytes == null || place >= limit) {
                whole = false;
                return 0;
            }
            return bytes[place++] & 255;
        }

        int two() {
            if (bytes == null || place + 1 >= limit) {
                whole = false;
                return 0;
            }
            place += 2;
            return (bytes[place - 2] & 255) << 8 | bytes[place - 1] & 255;
        }
    }

    /** One part of a composite glyph: which glyph it is and how that is moved. */
    private static final class Part {
        private static final int WORDS = 1, OFFSETS = 2, ONE_SCALE = 8, MORE = 32,
                TWO_SCALES = 64, MATRIX = 128, UNIT = 16384, HALF = 8192;

        int glyph = 0;
        boolean isLast = true;
        private int dx = 0;
        private int dy = 0;
        private int a = UNIT;
        private int b = 0;
        private int c = 0;
        private int d = UNIT;

        boolean read(Reader reader, int glyphs) {
            int flags = reader.two();
            glyph = reader.two();
            isLast = (flags & MORE) == 0;
            boolean words = (flags & WORDS) != 0;
            dx = words ? (short) reader.two() : (byte) reader.one();
            dy = words ? (short) reader.two() : (byte) reader.one();
            a = UNIT;
            b = 0;
            c = 0;
            d = UNIT;
            if ((flags & ONE_SCALE) != 0) {
                a = (short) reader.two();
                d = a;
            } else if ((flags & TWO_SCALES) != 0) {
                a = (short) reader.two();
                d = (short) reader.two();
            } else if ((flags & MATRIX) != 0) {
                a = (short) reader.two();
                b = (short) reader.two();
                c = (short) reader.two();
                d = (short) reader.two();
            }
            return reader.isWhole() && (flags & OFFSETS) != 0 && glyph < glyphs;
        }

        int movedX(int x, int y) {
            return (int) ((long) a * x + (long) c * y + HALF >> 14) + dx;
        }

        int movedY(int x, int y) {
            return (int) ((long) b * x + (long) d * y + HALF >> 14) + dy;
        }
    }

    /** The points of one glyph in units, those of its parts put together. */
    private static final class Shape {
        private static final int POINT_LIMIT = 256, CONTOUR_LIMIT = 32, PART_LIMIT = 40,
                DEPTH_LIMIT = 4, SIMPLE_POINTS = 128, SIMPLE_CONTOURS = 16, HEADER = 10;
        private static final int ON = 1, SHORT_X = 2, SHORT_Y = 4, AGAIN = 8, SAME_X = 16,
                SAME_Y = 32;

        final int[] xs = new int[POINT_LIMIT];
        final int[] ys = new int[POINT_LIMIT];
        final boolean[] on = new boolean[POINT_LIMIT];
        final int[] lasts = new int[CONTOUR_LIMIT];
        int points = 0;
        int contours = 0;
        private int parts = 0;
        private final int[] flags = new int[SIMPLE_POINTS];
        /** One of each for every depth: those further out are still being read. */
        private final Reader[] readers = new Reader[DEPTH_LIMIT + 1];
        private final Part[] moves = new Part[DEPTH_LIMIT + 1];

        Shape() {
            for (int i = 0; i <= DEPTH_LIMIT; i++) {
                readers[i] = new Reader();
                moves[i] = new Part();
            }
        }

        int contourOf(int k) {
            for (int i = 0; i < contours; i++) {
                if (k <= lasts[i]) {
                    return i;
                }
            }
            return contours;
        }

        /** False if the glyph is faulty; what stands here then is not to be used. */
        boolean assemble(FontFile file, int g) {
            points = 0;
            contours = 0;
            parts = 0;
            return addGlyph(file, g, 0);
        }

        private boolean addGlyph(FontFile file, int g, int depth) {
            int from = file.glyphStarts[g];
            int to = file.glyphStarts[g + 1];
            if (from == to) {
                return true;
            }
            if (to - from < HEADER || depth > DEPTH_LIMIT) {
                return false;
            }
            Reader reader = readers[depth];
            reader.open(file, from, to);
            int n = (short) reader.two();
            reader.skip(HEADER - 2);
            return n == -1 ? addParts(file, depth) : n >= 0 && addContours(reader, n);
        }

        private boolean addParts(FontFile file, int depth) {
            if (depth >= DEPTH_LIMIT) {
                return false;
            }
            Part part = moves[depth];
            boolean isDone = false;
            while (!isDone && parts < PART_LIMIT) {
                parts++;
                int first = points;
                if (!part.read(readers[depth], file.glyphs)
                        || !addGlyph(file, part.glyph, depth + 1) || !move(part, first)) {
                    return false;
                }
                isDone = part.isLast;
            }
            return isDone;
        }

        private boolean move(Part part, int first) {
            for (int i = first; i < points; i++) {
                int x = part.movedX(xs[i], ys[i]);
                ys[i] = part.movedY(xs[i], ys[i]);
                xs[i] = x;
                if (!isCoordinate(xs[i]) || !isCoordinate(ys[i])) {
                    return false;
                }
            }
            return true;
        }

        private static boolean isCoordinate(int v) {
            return v >= -32768 && v <= 32767;
        }

        private boolean addContours(Reader reader, int n) {
            if (n > SIMPLE_CONTOURS || contours + n > CONTOUR_LIMIT) {
                return false;
            }
            int last = -1;
            for (int i = 0; i < n; i++) {
                int told = reader.two();
                if (told <= last || told >= SIMPLE_POINTS) {
                    return false;
                }
                last = told;
                lasts[contours++] = points + last;
            }
            int first = points;
            if (first + last + 1 > POINT_LIMIT) {
                return false;
            }
            points = first + last + 1;
            reader.skip(reader.two());
            return readFlags(reader, first) && readAxis(reader, first, xs, SHORT_X, SAME_X)
                    && readAxis(reader, first, ys, SHORT_Y, SAME_Y) && reader.isWhole();
        }

        /** The flags are those for the points: one that stands again behind the last point is a fault. */
        private boolean readFlags(Reader reader, int first) {
            int again = 0;
            int flag = 0;
            for (int i = first; i < points; i++) {
                if (again > 0) {
                    again--;
                } else {
                    flag = reader.one();
                    again = (flag & AGAIN) != 0 ? reader.one() : 0;
                }
                flags[i - first] = flag;
                on[i] = (flag & ON) != 0;
            }
            return again == 0;
        }

        private boolean readAxis(Reader reader, int first, int[] axis, int shortBit, int sameBit) {
            int v = 0;
            for (int i = first; i < points; i++) {
                boolean same = (flags[i - first] & sameBit) != 0;
                if ((flags[i - first] & shortBit) != 0) {
                    int step = reader.one();
                    v += same ? step : -step;
                } else if (!same) {
                    v += (short) reader.two();
                }
                if (!isCoordinate(v)) {
                    return false;
                }
                axis[i] = v;
            }
            return true;
        }
    }

    /**
     * The curves of an outline on the page, each square t t + slope t + start for t from 0 to 1.
     * All coordinates are doubled, as a middle may lie half a 64th off.
     */
    private static final class Curves {
        static final int DOWN = 1, UP = 2, BOTH = 3;
        private static final int LIMIT = 256;
        private static final int ON_CURVE = 1000;

        final int[] startX = new int[LIMIT];
        final int[] startY = new int[LIMIT];
        final int[] left = new int[LIMIT];
        final int[] right = new int[LIMIT];
        final int[] top = new int[LIMIT];
        final int[] bottom = new int[LIMIT];
        int count = 0;
        private final int[] slopeX = new int[LIMIT];
        private final int[] slopeY = new int[LIMIT];
        private final int[] squareX = new int[LIMIT];
        private final int[] squareY = new int[LIMIT];
        private final int[] placedX = new int[LIMIT];
        private final int[] placedY = new int[LIMIT];

        static boolean isNear(int v) {
            return v >= -FAR && v <= FAR;
        }

        /** False if a point lies too far out; the curves are then not to be used. */
        boolean trace(Shape shape, FontFile face, int pixels, int x, int y) {
            count = 0;
            for (int i = 0; i < shape.points; i++) {
                placedX[i] = x + face.scaled(shape.xs[i], pixels);
                placedY[i] = y - face.scaled(shape.ys[i], pixels);
                if (!isNear(placedX[i]) || !isNear(placedY[i])) {
                    return false;
                }
            }
            int first = 0;
            for (int i = 0; i < shape.contours; i++) {
                addContour(shape.on, first, shape.lasts[i]);
                first = shape.lasts[i] + 1;
            }
            return true;
        }

        private void addContour(boolean[] on, int first, int last) {
            for (int i = first; i <= last; i++) {
                int before = i == first ? last : i - 1;
                int after = i == last ? first : i + 1;
                if (first == last || on[i] && on[after]) {
                    addLine(i, after);
                } else if (!on[i]) {
                    addBend(i, on[before] ? before : i, before, on[after] ? after : i, after);
                }
            }
        }

        private void addLine(int from, int to) {
            squareX[count] = 0;
            squareY[count] = 0;
            slopeX[count] = 2 * (placedX[to] - placedX[from]);
            slopeY[count] = 2 * (placedY[to] - placedY[from]);
            startX[count] = 2 * placedX[from];
            startY[count] = 2 * placedY[from];
            addBox(startX[count], startY[count]);
        }

        /** Bent by point i, from the middle of two points to that of two (the same one: itself). */
        private void addBend(int i, int from, int alsoFrom, int to, int alsoTo) {
            int bendX = 2 * placedX[i];
            int bendY = 2 * placedY[i];
            startX[count] = placedX[from] + placedX[alsoFrom];
            startY[count] = placedY[from] + placedY[alsoFrom];
            slopeX[count] = 2 * (bendX - startX[count]);
            slopeY[count] = 2 * (bendY - startY[count]);
            squareX[count] = startX[count] - 2 * bendX + placedX[to] + placedX[alsoTo];
            squareY[count] = startY[count] - 2 * bendY + placedY[to] + placedY[alsoTo];
            addBox(bendX, bendY);
        }

        private void addBox(int bendX, int bendY) {
            int k = count++;
            int stopX = startX[k] + slopeX[k] + squareX[k];
            int stopY = startY[k] + slopeY[k] + squareY[k];
            left[k] = Math.min(bendX, Math.min(startX[k], stopX));
            right[k] = Math.max(bendX, Math.max(startX[k], stopX));
            top[k] = Math.min(bendY, Math.min(startY[k], stopY));
            bottom[k] = Math.max(bendY, Math.max(startY[k], stopY));
        }

        boolean isFlat(int k) {
            return slopeY[k] == 0 && squareY[k] == 0;
        }

        /** Whether a flat curve goes through x. */
        boolean covers(int k, int x) {
            long start = startX[k] - x;
            long stop = start + slopeX[k] + squareX[k];
            return start == 0 || stop == 0 || start > 0 != stop > 0
                    || comesBack(squareX[k], slopeX[k], start);
        }

        /**
         * In which ways a curve that is not flat crosses the row y: what is on the row counts as
         * above it. One that only touches the row crosses it both ways too, which turns nothing,
         * but lets side() find the place.
         */
        int crossings(int k, int y) {
            long start = startY[k] - y;
            long stop = start + slopeY[k] + squareY[k];
            if (start > 0 != stop > 0) {
                return stop > 0 ? DOWN : UP;
            }
            return comesBack(squareY[k], slopeY[k], start) ? BOTH : 0;
        }

        /** For one with both ends on one side of 0: whether it comes to 0 between them. */
        private static boolean comesBack(long square, long slope, long start) {
            boolean turns = square > 0 ? slope < 0 && -slope < 2 * square
                    : slope > 0 && slope < -2 * square;
            return turns && start > 0 == square > 0 && slope * slope >= 4 * square * start;
        }

        /**
         * 1, 0 or -1 as the place where curve k crosses the row y in a way (1 down, -1 up) lies
         * right of x, on it, or left of it. No root is taken: in lower case the curve's numbers in
         * x, in upper case in y, 2 A A (place - x) is m + way n sqrt(B B - 4 A C), and m m less
         * n n (B B - 4 A C) is 4 A A (k k - n j).
         */
        int side(int curve, int way, int x, int y) {
            long a = squareX[curve];
            long b = slopeX[curve];
            long c = startX[curve] - x;
            long upperA = squareY[curve];
            long upperB = slopeY[curve];
            long upperC = startY[curve] - y;
            if (upperA == 0) {
                return Long.signum(a * upperC * upperC - b * upperB * upperC + c * upperB * upperB);
            }
            long n = upperA * b - a * upperB;
            long k = upperA * c - a * upperC;
            long j = upperB * c - b * upperC;
            int sure = Long.signum(2 * upperA * k - upperB * n);
            int rooted = upperB * upperB > 4 * upperA * upperC ? way * Long.signum(n) : 0;
            if (rooted == 0 || sure == rooted) {
                return sure;
            }
            return sure == 0 ? rooted : sure * squareLess(k, n, j);
        }

        /** The sign of k k - n j, which may be too great for a long; all are below 2^40. */
        private static int squareLess(long k, long n, long j) {
            if (Long.signum(n) * Long.signum(j) <= 0) {
                return k == 0 && (n == 0 || j == 0) ? 0 : 1;
            }
            long mask = (1L << 20) - 1;
            long p = Math.abs(k);
            long q = Math.abs(n);
            long r = Math.abs(j);
            long lowSquare = (p & mask) * p;
            long lowProduct = (q & mask) * r;
            int high = Long.compare((p >> 20) * p + (lowSquare >> 20),
                    (q >> 20) * r + (lowProduct >> 20));
            return high != 0 ? high : Long.compare(lowSquare & mask, lowProduct & mask);
        }

        int windingAt(int x, int y) {
            int turns = 0;
            for (int k = 0; k < count; k++) {
                if (startX[k] == x && startY[k] == y
                        || isFlat(k) && startY[k] == y && covers(k, x)) {
                    return ON_CURVE;
                }
                int ways = isFlat(k) ? 0 : crossings(k, y);
                int down = (ways & DOWN) != 0 ? side(k, 1, x, y) : -1;
                int up = (ways & UP) != 0 ? side(k, -1, x, y) : -1;
                if (down == 0 || up == 0) {
                    return ON_CURVE;
                }
                turns += (down > 0 ? 1 : 0) - (up > 0 ? 1 : 0);
            }
            return turns;
        }
    }

    /** The bitmap. Pixel centres are doubled like the curves: 128 i + 64. */
    private static final class Page {
        final int width;
        final int height;
        final long[] rows;
        /** For one row: turns[i] counts for all pixels left of i. */
        private final int[] turns;
        private long touched = 0;

        Page(int width, int height) {
            this.width = width;
            this.height = height;
            rows = new long[height];
            turns = new int[width + 1];
        }

        int countSet() {
            int set = 0;
            for (int j = 0; j < height; j++) {
                set += Long.bitCount(rows[j]);
            }
            return set;
        }

        void wipe() {
            Arrays.fill(rows, 0L);
        }

        private static int centre(int i) {
            return 128 * i + 64;
        }

        private static int firstFrom(int v, int limit) {
            return Math.max(0, Math.min(limit, Math.floorDiv(v + 63, 128)));
        }

        private static int firstBehind(int v, int limit) {
            return firstFrom(v + 1, limit);
        }

        int fill(Curves curves) {
            if (curves.count == 0) {
                return 0;
            }
            int left = curves.left[0];
            int right = curves.right[0];
            int top = curves.top[0];
            int bottom = curves.bottom[0];
            for (int k = 1; k < curves.count; k++) {
                left = Math.min(left, curves.left[k]);
                right = Math.max(right, curves.right[k]);
                top = Math.min(top, curves.top[k]);
                bottom = Math.max(bottom, curves.bottom[k]);
            }
            int set = 0;
            if (firstFrom(left, width) < firstBehind(right, width)) {
                int behind = firstBehind(bottom, height);
                for (int j = firstFrom(top, height); j < behind; j++) {
                    set += fillRow(curves, j);
                }
            }
            return set;
        }

        private int fillRow(Curves curves, int j) {
            int y = centre(j);
            Arrays.fill(turns, 0);
            touched = 0;
            for (int k = 0; k < curves.count; k++) {
                if (curves.top[k] > y || curves.bottom[k] < y) {
                    continue;
                }
                if (curves.startY[k] == y) {
                    touchStart(curves.startX[k]);
                }
                if (curves.isFlat(k)) {
                    touchFlat(curves, k);
                } else {
                    int ways = curves.crossings(k, y);
                    if ((ways & Curves.DOWN) != 0) {
                        cross(curves, k, 1, y);
                    }
                    if ((ways & Curves.UP) != 0) {
                        cross(curves, k, -1, y);
                    }
                }
            }
            long before = rows[j];
            rows[j] = before | touched | turnedPixels();
            return Long.bitCount(rows[j] & ~before);
        }

        private void touchStart(int x) {
            int i = firstFrom(x, width);
            if (i < width && centre(i) == x) {
                touched |= 1L << i;
            }
        }

        private void touchFlat(Curves curves, int k) {
            int behind = firstBehind(curves.right[k], width);
            for (int i = firstFrom(curves.left[k], width); i < behind; i++) {
                if (curves.covers(k, centre(i))) {
                    touched |= 1L << i;
                }
            }
        }

        private void cross(Curves curves, int k, int way, int y) {
            int crossed = firstFrom(curves.left[k], width);
            int behind = firstBehind(curves.right[k], width);
            for (int step = 64; step > 0; step /= 2) {
                int i = crossed + step - 1;
                int side = i < behind ? curves.side(k, way, centre(i), y) : -1;
                if (side > 0) {
                    crossed = i + 1;
                } else if (side == 0) {
                    touched |= 1L << i;
                }
            }
            turns[crossed] += way;
        }

        private long turnedPixels() {
            long bits = 0;
            int turn = 0;
            for (int i = width - 1; i >= 0; i--) {
                turn += turns[i + 1];
                if (turn != 0) {
                    bits |= 1L << i;
                }
            }
            return bits;
        }
    }

    /** The lines of the latest text. */
    private static final class Lines {
        private static final int NEWLINE = 10, SPACE = 32, HYPHEN = 45;

        final int[] begins = new int[TEXT_LIMIT];
        final int[] ends = new int[TEXT_LIMIT];
        final int[] widths = new int[TEXT_LIMIT];
        int count = 0;
        final int[] glyphs = new int[TEXT_LIMIT];
        /** Where each byte would stand if all were one line. */
        final int[] places = new int[TEXT_LIMIT];
        private final int[] advances = new int[TEXT_LIMIT];

        void measure(FontFile face, int pixels, byte[] text, int length) {
            int place = 0;
            for (int i = 0; i < length && i < TEXT_LIMIT; i++) {
                glyphs[i] = face.glyphOf(text[i] & 255);
                advances[i] = face.scaled(face.advanceOf(glyphs[i]), pixels);
                if (i > 0) {
                    int kern = face.kernOf(glyphs[i - 1], glyphs[i]);
                    place += advances[i - 1] + face.scaled(kern, pixels);
                }
                places[i] = place;
            }
        }

        void part(byte[] text, int length, int width) {
            int begin = 0;
            count = 0;
            while (begin < length && count < TEXT_LIMIT) {
                int stop = lineStop(text, length, begin, width);
                begins[count] = begin;
                ends[count] = stop;
                widths[count] = widthOf(text, begin, stop);
                count++;
                begin = stop < length && text[stop] == NEWLINE ? stop + 1 : stop;
            }
        }

        /** A kern may make more bytes narrower than less, so all places are looked at. */
        private int lineStop(byte[] text, int length, int begin, int width) {
            if (text[begin] == NEWLINE) {
                return begin;
            }
            int least = 0;
            int most = 0;
            for (int stop = begin + 1; stop <= length && text[stop - 1] != NEWLINE; stop++) {
                if (mayStop(text, length, stop)) {
                    least = least == 0 ? stop : least;
                    most = widthOf(text, begin, stop) <= width ? stop : most;
                }
            }
            return most == 0 ? least : most;
        }

        private static boolean mayStop(byte[] text, int length, int stop) {
            if (stop == length || text[stop] == NEWLINE) {
                return true;
            }
            return text[stop] != SPACE && (text[stop - 1] == SPACE || text[stop - 1] == HYPHEN);
        }

        private int widthOf(byte[] text, int begin, int stop) {
            int last = stop - 1;
            while (last >= begin && text[last] == SPACE) {
                last--;
            }
            return last < begin ? 0 : places[last] - places[begin] + advances[last];
        }
    }
}
