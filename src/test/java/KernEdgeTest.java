/** Rule 9 of promise 4, and promise 10: the kern of two glyphs. */
public final class KernEdgeTest extends Edges {
    public static void main(String[] args) {
        ifItIsThere();
        versionAndCount();
        coverage();
        risingPairs();
        kerns();
        lengths();
        pairCount();
        greatTable();
        numbers();
        noneThere();
        CHECK.finish();
    }

    private static FontMaker kerned(int... pairs) {
        FontMaker maker = FontMaker.plain();
        maker.withKern = true;
        for (int i = 0; i < pairs.length; i += 3) {
            maker.pairs.add(new int[] {pairs[i], pairs[i + 1], pairs[i + 2]});
        }
        return maker;
    }

    private static void judgedKern(String what, byte[] kern, int fault) {
        judgedWith("kern", kern, what, fault);
    }

    private static void ifItIsThere() {
        sentence("kern, if it is there");
        judged("no kern", FontMaker.plain(), GOOD);
        judged("a kern of no pair", kerned(), GOOD);
        judgedKern("a kern of no bytes", new byte[0], KERN);
        judgedKern("a kern of 17 zeros", new byte[17], KERN);
        judgedKern("a kern of 18 zeros", new byte[18], KERN);
        FontMaker other = FontMaker.plain();
        other.tables.put("kerm", new byte[1]);
        judged("another table", other, GOOD);
    }

    private static void versionAndCount() {
        byte[] kern = kerned(0, 1, 5, 1, 0, 6).kern();
        sentence("2 bytes 0");
        for (int v : new int[] {0, 1, 256, 65535}) {
            judgedKern(v + " at 0", put(kern, 0, v), v == 0 ? GOOD : KERN);
        }
        sentence("2: 1 or above");
        for (int v : new int[] {0, 1, 2, 255, 256, 32768, 65535}) {
            judgedKern(v + " at 2", put(kern, 2, v), v == 0 ? KERN : GOOD);
        }
        sentence("2; 2: length L");
        for (int v : new int[] {0, 1, 65535}) {
            judgedKern(v + " at 4", put(kern, 4, v), GOOD);
        }
    }

    private static void coverage() {
        sentence("2: 1; 2: n; 6 bytes");
        byte[] kern = kerned(0, 1, 5, 1, 0, 6).kern();
        for (int v : new int[] {0, 1, 2, 3, 256, 257, 65535}) {
            judgedKern(v + " at 8", put(kern, 8, v), v == 1 ? GOOD : KERN);
        }
        byte[] filled = putFour(put(kern, 12, 65535), 14, 0xFFFFFFFFL);
        judgedKern("6 bytes that mean nothing", filled, GOOD);
    }

    private static void risingPairs() {
        sentence("two glyphs, rising by the first, then the second");
        judged("1, 1", kerned(1, 1, 5), GOOD);
        judged("0, 0", kerned(0, 0, 5), GOOD);
        judged("1, 1 and 1, 2", kerned(1, 1, 5, 1, 2, 5), GOOD);
        judged("1, 1 and 1, 1", kerned(1, 1, 5, 1, 1, 5), KERN);
        judged("1, 1 and 1, 1 of another kern", kerned(1, 1, 5, 1, 1, 6), KERN);
        judged("1, 1 and 1, 0", kerned(1, 1, 5, 1, 0, 5), KERN);
        judged("1, 1 and 2, 0", kerned(1, 1, 5, 2, 0, 5), GOOD);
        judged("1, 1 and 2, 1", kerned(1, 1, 5, 2, 1, 5), GOOD);
        judged("1, 1 and 0, 2", kerned(1, 1, 5, 0, 2, 5), KERN);
        judged("1, 65535 and 2, 0", kerned(1, 65535, 5, 2, 0, 5), GOOD);
        judged("2, 0 and 1, 65535", kerned(2, 0, 5, 1, 65535, 5), KERN);
        judged("32767, 0 and 32768, 0", kerned(32767, 0, 5, 32768, 0, 5), GOOD);
        judged("32768, 0 and 32767, 0", kerned(32768, 0, 5, 32767, 0, 5), KERN);
        judged("0, 32767 and 0, 32768", kerned(0, 32767, 5, 0, 32768, 5), GOOD);
        judged("0, 32768 and 0, 32767", kerned(0, 32768, 5, 0, 32767, 5), KERN);
        judged("the third is no more", kerned(0, 0, 1, 5, 5, 1, 5, 4, 1), KERN);
        judged("the last are 65535", kerned(65535, 65534, 1, 65535, 65535, 1), GOOD);
    }

    private static void kerns() {
        sentence("2 (signed): KERN of the two, -8 UNITS to 8 UNITS");
        for (int sign = -1; sign <= 1; sign += 2) {
            for (int v = 8191; v <= 8193; v++) {
                int fault = v > 8192 ? KERN : GOOD;
                judged("one of " + sign * v, kerned(0, 1, sign * v), fault);
                judged("the last of " + sign * v, kerned(0, 1, 1, 1, 1, sign * v), fault);
                judged("the first of " + sign * v, kerned(0, 1, sign * v, 1, 1, 1), fault);
            }
        }
        FontMaker great = kerned(0, 1, 32767, 1, 1, -32768);
        great.units = 4096;
        judged("8 UNITS are 32768", great, GOOD);
        due("kern(0, 1)", loaded(great).kern(0, 1), 32767);
        due("kern(1, 1)", loaded(great).kern(1, 1), -32768);
        great.units = 4095;
        judged("8 UNITS are 32760", great, KERN);
    }

    private static void lengths() {
        sentence("L is 14 + 6 n or above, and with the 4 bytes before in kern.");
        for (int n = 0; n <= 2; n++) {
            byte[] kern = kerned(java.util.Arrays.copyOf(new int[] {0, 1, 5, 1, 0, 6}, 3 * n)).kern();
            int told = 14 + 6 * n;
            judgedKern(n + " pairs", kern, GOOD);
            judgedKern(n + " pairs, L one less", put(kern, 6, told - 1), KERN);
            judgedKern(n + " pairs, L one more", put(kern, 6, told + 1), KERN);
            judgedKern(n + " pairs, L one more and a byte", put(cut(kern, kern.length + 1), 6, told + 1),
                    GOOD);
            judgedKern(n + " pairs, L two more and a byte", put(cut(kern, kern.length + 1), 6, told + 2),
                    KERN);
            judgedKern(n + " pairs, a byte more", cut(kern, kern.length + 1), GOOD);
            judgedKern(n + " pairs, a byte less", cut(kern, kern.length - 1), KERN);
            judgedKern(n + " pairs, L 0", put(kern, 6, 0), KERN);
            judgedKern(n + " pairs, L 65535", put(kern, 6, 65535), KERN);
        }
    }

    private static void pairCount() {
        sentence("n times 6");
        byte[] kern = kerned(0, 1, 5, 1, 0, 6).kern();
        judgedKern("3 of 2 pairs", put(kern, 10, 3), KERN);
        judgedKern("65535 of 2 pairs", put(kern, 10, 65535), KERN);
        judgedKern("10923 pairs, whose bytes are 2 in two bytes", put(kern, 10, 10923), KERN);
        for (int n = 0; n <= 2; n++) {
            FontMaker maker = FontMaker.plain();
            maker.tables.put("kern", put(kern, 10, n));
            GlyphPage page = loaded(maker);
            due("the first of " + n, page.kern(0, 1), n > 0 ? 5 : 0);
            due("the second of " + n, page.kern(1, 0), n > 1 ? 6 : 0);
        }
        byte[] falling = kerned(1, 0, 5, 0, 1, 9999).kern();
        judgedKern("what stands behind n pairs is not told of", put(falling, 10, 1), GOOD);
        judgedKern("but it is with 2 pairs", falling, KERN);
    }

    /** As many pairs as the tape has room for, all of them found. */
    private static void greatTable() {
        sentence("The KERN of two glyphs");
        FontMaker maker = kerned();
        for (int i = 0; i < 590; i++) {
            maker.pairs.add(new int[] {i / 7, 100 * (i % 7), i + 1});
        }
        judged("590 pairs", maker, GOOD);
        GlyphPage page = null;
        for (int i = 0; i < 590; i++) {
            page = i % 120 == 0 ? loaded(maker) : page;
            due("pair " + i, page.kern(i / 7, 100 * (i % 7)), i + 1);
            due("behind pair " + i, page.kern(i / 7, 100 * (i % 7) + 1), 0);
        }
        java.util.Collections.swap(maker.pairs, 588, 589);
        judged("590 pairs, the last two swapped", maker, KERN);
    }

    private static void numbers() {
        sentence("or of two numbers that are none if the file has such a pair, in units; (0 to 65535; "
                + "the first such pair;) 0 if there is none");
        GlyphPage page = loaded(kerned(0, 0, 1, 0, 65535, 2, 1, 0, 3, 63, 64, 4, 32767, 32768, 5,
                65535, 0, 6, 65535, 65535, 7));
        int[][] want = {{0, 0, 1}, {0, 65535, 2}, {1, 0, 3}, {63, 64, 4}, {32767, 32768, 5},
            {65535, 0, 6}, {65535, 65535, 7},
            {0, 1, 0}, {0, 65534, 0}, {1, 1, 0}, {64, 63, 0}, {32768, 32767, 0}, {65535, 1, 0},
            {65534, 65535, 0}, {-1, 0, 0}, {0, -1, 0}, {-1, -1, 0}, {-1, 65535, 0}, {65535, -1, 0},
            {65536, 0, 0}, {0, 65536, 0}, {65537, 0, 0}, {65536, 65536, 0}, {-65536, 0, 0},
            {65536 + 63, 65536 + 64, 0}, {MIN, 0, 0}, {0, MIN, 0}, {MAX, MAX, 0}, {MIN, MIN, 0}};
        for (int[] w : want) {
            due("kern(" + w[0] + ", " + w[1] + ")", page.kern(w[0], w[1]), w[2]);
        }
    }

    private static void noneThere() {
        sentence("KERN is 0 for other pairs, and without kern.");
        GlyphPage page = new GlyphPage(8, 8);
        due("without a font", page.kern(0, 0), 0);
        kerned(0, 0, 9).load(page);
        due("with a pair", page.kern(0, 0), 9);
        due("another font", FontMaker.plain().load(page), GOOD);
        due("without kern", page.kern(0, 0), 0);
        due("a kern of no pairs", kerned().load(page), GOOD);
        due("without pairs", page.kern(0, 0), 0);
    }
}
