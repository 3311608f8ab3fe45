import java.util.Arrays;
import java.util.List;
import java.util.Map;

/** Spoilt font files, and what is read from those that are still good, against a second reading. */
public final class JudgeTest {
    private static final Check CHECK = new Check();
    private static final int[] NUMBERS = {0, 1, 2, 3, 4, 7, 8, 10, 15, 16, 17, 31, 32, 35, 40, 41, 54, 63,
        64, 65, 127, 128, 129, 255, 256, 8192, 16384, 16385, 32767, 32768, 32769, 65534, 65535};
    private static long seed = 4711;

    public static void main(String[] args) {
        int[] faults = new int[10];
        for (int round = 0; round < 60000; round++) {
            faults[round(round)]++;
        }
        System.out.println("faults 0 to 9: " + Arrays.toString(faults));
        for (int fault = 0; fault < 10; fault++) {
            CHECK.isTrue("many files of fault " + fault, faults[fault] > 300);
        }
        CHECK.finish();
    }

    private static int below(int n) {
        seed = seed * 6364136223846793005L + 1442695040888963407L;
        return (int) ((seed >>> 33) % n);
    }

    private static int number() {
        return below(3) == 0 ? below(65536) : NUMBERS[below(NUMBERS.length)];
    }

    /** Some of everything: simple glyphs, parts in parts 4 deep, kerns, codes of both kinds. */
    private static FontMaker good() {
        FontMaker maker = FontMaker.plain();
        maker.form = below(2);
        maker.units = new int[] {16, 1000, 1024, 16384}[below(4)];
        maker.ascent = 8 * Math.min(4095, maker.units) - below(2);
        maker.descent = -maker.ascent;
        maker.gap = below(100);
        maker.advances.set(0, 8 * Math.min(8191, maker.units) - below(2));
        maker.advances.set(1, 100);
        maker.add(FontMaker.bytes().two(2).zeros(8).two(1, 6).two(3).one(8, 8, 8)
                .one(2 + 16 + 1).one(2 + 32).one(1 + 16 + 4 + 8, 2).one(16 + 4 + 32).one(64)
                .one(255).one(255).two(-300)
                .two(-1000).one(10, 20, 30).one(255).two(31952).done(), 5);
        maker.add(FontMaker.composite(2, 1, 2, 1, -3, -4), 6);
        maker.add(FontMaker.bytes().two(-1).zeros(8).two(2 + 8 + 32, 3).one(9, -9).two(8192)
                .two(3 + 64 + 32, 1, 7, 7, -16384, 100).two(3 + 128, 2, 0, 0, 9000, -9000, 77, 16384)
                .done(), 7);
        maker.add(FontMaker.composite(4, 0, 0), 8);
        maker.add(FontMaker.composite(5, 0, 0, 0, 0, 0), 9);
        maker.metrics = 3 + below(5);
        maker.segments.clear();
        maker.segments.add(new int[] {10, 12, 65530, 0});
        maker.segments.add(new int[] {30, 40, 1, 4});
        maker.segments.add(new int[] {35, 65535, 65535, 0});
        maker.tables.put("cmap", FontMaker.cmap(maker.codes(3, 0, 5, 65535, 1)));
        maker.pairs.add(new int[] {0, 1, 8 * Math.min(4095, maker.units)});
        maker.pairs.add(new int[] {0, 3, -5});
        maker.pairs.add(new int[] {6, 0, -8 * Math.min(4095, maker.units)});
        return maker;
    }

    private static byte[] spoilt(byte[] table) {
        byte[] out = table;
        int kind = below(8);
        if (kind == 0) {
            out = Arrays.copyOf(table, below(table.length + 4));
        } else if (kind < 5 && table.length > 1) {
            out = table.clone();
            int place = below(table.length - 1) / 2 * 2;
            int value = kind == 1 ? (out[place] << 8 | out[place + 1] & 255) + below(3) - 1 : number();
            out[place] = (byte) (value >> 8);
            out[place + 1] = (byte) value;
        } else if (table.length > 0) {
            out = table.clone();
            out[below(table.length)] ^= (byte) (1 << below(8));
        }
        return out;
    }

    private static int round(int round) {
        FontMaker maker = good();
        Map<String, byte[]> tables = maker.allTables();
        String[] tags = tables.keySet().toArray(new String[0]);
        for (int i = below(3); i >= 0; i--) {
            String tag = tags[below(tags.length)];
            tables.put(tag, spoilt(tables.get(tag)));
        }
        byte[] file = FontMaker.file(tables);
        if (below(12) == 0) {
            file = spoilt(file);
        }
        Judge judge = new Judge(file);
        GlyphPage page = new GlyphPage(8, 8);
        int want = judge.fault();
        int fault = FontMaker.load(page, file);
        CHECK.due("file " + round, fault, want);
        if (fault == 0 && want == 0) {
            same("file " + round + ": ", judge, page);
        }
        return want;
    }

    private static void same(String name, Judge judge, GlyphPage page) {
        int[] metrics = {judge.units, judge.glyphs, judge.ascent, judge.descent, judge.gap};
        for (int what = 0; what < 5; what++) {
            CHECK.due(name + "metric(" + what + ")", page.metric(what), metrics[what]);
        }
        for (int i = 0; i < 40; i++) {
            int code = i < 20 ? 5 + 2 * i + below(2) : number();
            CHECK.due(name + "glyph(" + code + ")", page.glyph(code), judge.glyph(code));
        }
        for (int g = 0; g < judge.glyphs; g++) {
            List<Judge.Point> points = judge.points(g);
            CHECK.due(name + "look(" + g + ", 0)", page.look(g, 0), judge.advance(g));
            CHECK.due(name + "look(" + g + ", 1)", page.look(g, 1), judge.contours(g));
            CHECK.due(name + "look(" + g + ", 2)", page.look(g, 2), points.size());
        }
        for (int i = 0; i < 40; i++) {
            int g = below(judge.glyphs);
            int k = below(judge.points(g).size() + 1);
            boolean none = k == judge.points(g).size();
            Judge.Point p = none ? null : judge.points(g).get(k);
            int[] want = none ? new int[] {100000, 100000, 100000, 100000}
                    : new int[] {p.x(), p.y(), p.on() ? 1 : 0, p.contour()};
            for (int what = 0; what < 4; what++) {
                CHECK.due(name + "point(" + g + ", " + k + ", " + what + ")", page.point(g, k, what),
                        want[what]);
            }
        }
        for (int i = 0; i < 30; i++) {
            int left = i < 20 ? below(7) : number();
            int right = i < 20 ? below(4) : number();
            CHECK.due(name + "kern(" + left + ", " + right + ")", page.kern(left, right),
                    judge.kern(left, right));
        }
    }
}
