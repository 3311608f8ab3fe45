import java.math.BigInteger;
import java.util.ArrayList;
import java.util.List;

/**
 * The winding of a place by another way than the program's: each curve is halved until its triangle
 * is clear of the place, and then its chord counts. What lies on a curve is found by a common root.
 */
final class Oracle {
    static final int ON_CURVE = 1000;
    private static final int DEEPEST = 90;

    /** Curves of doubled coordinates: from, bend, to; a line bends in its middle, so all is quadrupled. */
    private final List<long[]> curves = new ArrayList<>();

    /** Contours of x, y, on in 64ths of the page. */
    Oracle(int[][] contours) {
        for (int[] c : contours) {
            int n = c.length / 3;
            for (int i = 0; i < n; i++) {
                addAt(c, n, i);
            }
        }
    }

    private void addAt(int[] c, int n, int i) {
        int before = (i + n - 1) % n;
        int after = (i + 1) % n;
        boolean on = c[3 * i + 2] == 1;
        long x = c[3 * i];
        long y = c[3 * i + 1];
        if (n == 1) {
            curves.add(new long[] {4 * x, 4 * y, 4 * x, 4 * y, 4 * x, 4 * y});
        } else if (!on) {
            long[] from = end(c, before, i);
            long[] to = end(c, after, i);
            curves.add(new long[] {from[0], from[1], 4 * x, 4 * y, to[0], to[1]});
        } else if (c[3 * after + 2] == 1) {
            long ax = c[3 * after];
            long ay = c[3 * after + 1];
            curves.add(new long[] {4 * x, 4 * y, 2 * (x + ax), 2 * (y + ay), 4 * ax, 4 * ay});
        }
    }

    private static long[] end(int[] c, int neighbour, int i) {
        long x = c[3 * neighbour];
        long y = c[3 * neighbour + 1];
        if (c[3 * neighbour + 2] == 1) {
            return new long[] {4 * x, 4 * y};
        }
        return new long[] {2 * (x + c[3 * i]), 2 * (y + c[3 * i + 1])};
    }

    int windingAt(int x, int y) {
        int turns = 0;
        for (long[] curve : curves) {
            BigInteger[] moved = new BigInteger[6];
            for (int i = 0; i < 6; i++) {
                moved[i] = BigInteger.valueOf(curve[i] - 4L * (i % 2 == 0 ? x : y));
            }
            if (isOn(moved)) {
                return ON_CURVE;
            }
            turns += turns(moved, 0);
        }
        return turns;
    }

    /** How a curve round (0, 0) crosses the ray to the right. */
    private static int turns(BigInteger[] c, int depth) {
        if (depth == DEEPEST) {
            throw new IllegalStateException("too near for the oracle");
        }
        if (!mayHold(c)) {
            return chord(c[0], c[1], c[4], c[5]);
        }
        BigInteger[] first = new BigInteger[6];
        BigInteger[] second = new BigInteger[6];
        for (int i = 0; i < 2; i++) {
            BigInteger middle = c[i].add(c[i + 2].shiftLeft(1)).add(c[i + 4]);
            first[i] = c[i].shiftLeft(2);
            first[i + 2] = c[i].add(c[i + 2]).shiftLeft(1);
            first[i + 4] = middle;
            second[i] = middle;
            second[i + 2] = c[i + 2].add(c[i + 4]).shiftLeft(1);
            second[i + 4] = c[i + 4].shiftLeft(2);
        }
        return turns(first, depth + 1) + turns(second, depth + 1);
    }

    private static int chord(BigInteger x0, BigInteger y0, BigInteger x1, BigInteger y1) {
        boolean below0 = y0.signum() > 0;
        boolean below1 = y1.signum() > 0;
        if (below0 == below1) {
            return 0;
        }
        int side = x0.multiply(y1).subtract(x1.multiply(y0)).signum();
        if (below1) {
            return side > 0 ? 1 : 0;
        }
        return side < 0 ? -1 : 0;
    }

    /** Whether (0, 0) may lie in the closed triangle: not if all of it is on one side of a line. */
    private static boolean mayHold(BigInteger[] c) {
        for (int axis = 0; axis < 2; axis++) {
            int s = c[axis].signum();
            if (s != 0 && s == c[axis + 2].signum() && s == c[axis + 4].signum()) {
                return false;
            }
        }
        int a = cross(c, 0, 2);
        int b = cross(c, 2, 4);
        int d = cross(c, 4, 0);
        return !(a > 0 || b > 0 || d > 0) || !(a < 0 || b < 0 || d < 0);
    }

    private static int cross(BigInteger[] c, int p, int q) {
        return c[p].multiply(c[q + 1]).subtract(c[p + 1].multiply(c[q])).signum();
    }

    /** Whether x(t) and y(t) have a common root from 0 to 1. */
    private static boolean isOn(BigInteger[] p) {
        BigInteger[] x = powers(p, 0);
        BigInteger[] y = powers(p, 1);
        boolean noX = isZero(x);
        boolean noY = isZero(y);
        if (noX || noY) {
            return noX && noY || hasRoot(noX ? y : x);
        }
        BigInteger n = y[0].multiply(x[1]).subtract(x[0].multiply(y[1]));
        BigInteger k = y[0].multiply(x[2]).subtract(x[0].multiply(y[2]));
        if (n.signum() == 0) {
            BigInteger m = y[1].multiply(x[2]).subtract(x[1].multiply(y[2]));
            return k.signum() == 0 && m.signum() == 0 && hasRoot(x);
        }
        // t is -k / n, if there is a common root at all.
        BigInteger t = n.signum() > 0 ? k.negate() : k;
        BigInteger whole = n.abs();
        return t.signum() >= 0 && t.compareTo(whole) <= 0 && isRoot(x, t, whole)
                && isRoot(y, t, whole);
    }

    private static BigInteger[] powers(BigInteger[] p, int axis) {
        BigInteger from = p[axis];
        BigInteger bend = p[axis + 2];
        BigInteger to = p[axis + 4];
        return new BigInteger[] {from.subtract(bend.shiftLeft(1)).add(to),
            bend.subtract(from).shiftLeft(1), from};
    }

    private static boolean isZero(BigInteger[] q) {
        return q[0].signum() == 0 && q[1].signum() == 0 && q[2].signum() == 0;
    }

    private static boolean isRoot(BigInteger[] q, BigInteger t, BigInteger whole) {
        return q[0].multiply(t).multiply(t).add(q[1].multiply(t).multiply(whole))
                .add(q[2].multiply(whole).multiply(whole)).signum() == 0;
    }

    private static boolean hasRoot(BigInteger[] q) {
        int from = q[2].signum();
        int to = q[0].add(q[1]).add(q[2]).signum();
        if (from * to <= 0) {
            return true;
        }
        // The turning point -q1 / 2 q0 must lie between, and its value on the other side.
        BigInteger twice = q[0].shiftLeft(1);
        if (twice.signum() == 0) {
            return false;
        }
        BigInteger t = twice.signum() > 0 ? q[1].negate() : q[1];
        boolean between = t.signum() > 0 && t.compareTo(twice.abs()) < 0;
        BigInteger value = q[2].multiply(q[0]).shiftLeft(2).subtract(q[1].multiply(q[1]));
        return between && value.signum() * q[0].signum() * from <= 0;
    }
}
