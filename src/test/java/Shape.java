import java.math.BigInteger;
import java.util.ArrayList;
import java.util.Collection;
import java.util.Comparator;
import java.util.List;
import java.util.TreeSet;

/** A solid as the document defines it, found by trying everything: slow, plain, and unlike the program's own ways. */
final class Shape {
    static final Comparator<long[]> ORDER = (p, q) -> {
        for (int i = 0; i < p.length; i++) {
            if (p[i] != q[i]) {
                return Long.compare(p[i], q[i]);
            }
        }
        return 0;
    };

    final int kind;
    final List<long[]> corners;
    /** Of each face: a, b, c, d. */
    final List<long[]> faces = new ArrayList<>();
    final List<List<Integer>> rings = new ArrayList<>();
    /** Of each edge: two corners, two faces. */
    final List<int[]> edges = new ArrayList<>();
    private BigInteger[] width;

    Shape(Collection<long[]> points) {
        TreeSet<long[]> set = new TreeSet<>(ORDER);
        set.addAll(points);
        List<long[]> all = new ArrayList<>(set);
        kind = kindOf(all);
        if (kind <= 1) {
            corners = all;
        } else if (kind == 2) {
            corners = List.of(all.get(0), all.get(all.size() - 1));
            edges.add(new int[] {0, 1, -1, -1});
        } else if (kind == 3) {
            long[] n = someNormal(all);
            corners = sorted(loop(all, n));
            faces.add(plane(n, all.get(0)));
            faces.add(plane(times(n, -1), all.get(0)));
            faces.sort(ORDER);
            lay();
        } else {
            TreeSet<long[]> planes = planesOf(all);
            TreeSet<long[]> found = new TreeSet<>(ORDER);
            for (long[] f : planes) {
                found.addAll(loop(on(all, f), f));
            }
            corners = new ArrayList<>(found);
            faces.addAll(planes);
            lay();
        }
    }

    static int kindOf(List<long[]> all) {
        if (all.size() < 2) {
            return all.size();
        }
        long[] n = someNormal(all);
        if (n == null) {
            return 2;
        }
        for (long[] p : all) {
            if (dot(n, minus(p, all.get(0))) != 0) {
                return 4;
            }
        }
        return 3;
    }

    private static long[] someNormal(List<long[]> all) {
        long[] e = minus(all.get(1), all.get(0));
        for (long[] p : all) {
            long[] n = cross(e, minus(p, all.get(0)));
            if (dot(n, n) != 0) {
                return n;
            }
        }
        return null;
    }

    private static TreeSet<long[]> planesOf(List<long[]> all) {
        TreeSet<long[]> planes = new TreeSet<>(ORDER);
        for (int i = 0; i < all.size(); i++) {
            for (int j = i + 1; j < all.size(); j++) {
                for (int k = j + 1; k < all.size(); k++) {
                    long[] n = cross(minus(all.get(j), all.get(i)), minus(all.get(k), all.get(i)));
                    int sides = dot(n, n) == 0 ? 3 : sides(all, n, dot(n, all.get(i)));
                    if (sides != 3) {
                        planes.add(plane(times(n, sides == 1 ? 1 : -1), all.get(i)));
                    }
                }
            }
        }
        return planes;
    }

    /** 1 some below, 2 some above, 3 both. */
    private static int sides(List<long[]> all, long[] n, long d) {
        int sides = 0;
        for (long[] p : all) {
            long h = dot(n, p);
            sides |= h < d ? 1 : h > d ? 2 : 0;
            if (sides == 3) {
                return 3;
            }
        }
        return sides;
    }

    private static List<long[]> on(List<long[]> all, long[] f) {
        List<long[]> some = new ArrayList<>();
        for (long[] p : all) {
            if (dot(f, p) == f[3]) {
                some.add(p);
            }
        }
        return some;
    }

    static long[] plane(long[] n, long[] p) {
        long g = gcd(gcd(Math.abs(n[0]), Math.abs(n[1])), Math.abs(n[2]));
        return new long[] {n[0] / g, n[1] / g, n[2] / g, dot(n, p) / g};
    }

    /** The corners of points in one plane, against the clock when n points to the eye (a chain over flat shadows). */
    static List<long[]> loop(List<long[]> all, long[] n) {
        int axis = n[0] != 0 ? 0 : n[1] != 0 ? 1 : 2;
        int u = (axis + 1) % 3;
        int v = (axis + 2) % 3;
        List<long[]> points = sorted(all);
        points.sort((p, q) -> p[u] != q[u] ? Long.compare(p[u], q[u]) : Long.compare(p[v], q[v]));
        List<long[]> chain = new ArrayList<>();
        for (int pass = 0; pass < 2; pass++) {
            int base = chain.size();
            for (long[] p : points) {
                while (chain.size() >= base + 2 && area(chain, p, u, v) <= 0) {
                    chain.remove(chain.size() - 1);
                }
                chain.add(p);
            }
            chain.remove(chain.size() - 1);
            java.util.Collections.reverse(points);
        }
        if (n[axis] < 0) {
            java.util.Collections.reverse(chain);
        }
        return chain;
    }

    private static long area(List<long[]> chain, long[] p, int u, int v) {
        long[] a = chain.get(chain.size() - 2);
        long[] b = chain.get(chain.size() - 1);
        return (b[u] - a[u]) * (p[v] - a[v]) - (b[v] - a[v]) * (p[u] - a[u]);
    }

    private static List<long[]> sorted(List<long[]> all) {
        List<long[]> copy = new ArrayList<>(all);
        copy.sort(ORDER);
        return copy;
    }

    private void lay() {
        for (long[] f : faces) {
            List<long[]> loop = loop(on(corners, f), f);
            List<Integer> ring = new ArrayList<>();
            for (long[] p : loop) {
                ring.add(corners.indexOf(p));
            }
            java.util.Collections.rotate(ring, -ring.indexOf(java.util.Collections.min(ring)));
            rings.add(ring);
        }
        for (int i = 0; i < corners.size(); i++) {
            for (int j = i + 1; j < corners.size(); j++) {
                List<Integer> both = new ArrayList<>();
                for (int f = 0; f < faces.size(); f++) {
                    int gap = Math.abs(rings.get(f).indexOf(i) - rings.get(f).indexOf(j));
                    boolean isNext = gap == 1 || gap == rings.get(f).size() - 1;
                    if (rings.get(f).contains(i) && rings.get(f).contains(j) && (kind == 4 || isNext)) {
                        both.add(f);
                    }
                }
                if (both.size() >= 2) {
                    edges.add(new int[] {i, j, both.get(0), both.get(1)});
                }
            }
        }
    }

    /** Twice the area of a face, told in roots of its a a + b b + c c. */
    long area(int f) {
        long[] all = new long[3];
        List<Integer> ring = rings.get(f);
        for (int i = 0; i < ring.size(); i++) {
            all = plus(all, cross(corners.get(ring.get(i)), corners.get(ring.get((i + 1) % ring.size()))));
        }
        int axis = faces.get(f)[0] != 0 ? 0 : faces.get(f)[1] != 0 ? 1 : 2;
        return all[axis] / faces.get(f)[axis];
    }

    long volume() {
        long all = 0;
        for (int f = 0; f < faces.size() && kind == 4; f++) {
            all += area(f) * faces.get(f)[3];
        }
        return all;
    }

    /** By pieces that all have a tip at 0 0 0, some of them below 0 in size. */
    BigInteger[] middle(int axis) {
        long all = 0;
        for (List<Integer> ring : rings) {
            for (int i = 1; i + 1 < ring.size(); i++) {
                long[] p = corners.get(ring.get(0));
                long[] q = corners.get(ring.get(i));
                long[] r = corners.get(ring.get(i + 1));
                all += dot(cross(p, q), r) * (p[axis] + q[axis] + r[axis]);
            }
        }
        return lowest(BigInteger.valueOf(all), BigInteger.valueOf(4 * volume()));
    }

    /** Over the ways across any two lines between corners: none of them gives less than the width. */
    BigInteger[] width() {
        if (width != null) {
            return width;
        }
        TreeSet<long[]> ways = new TreeSet<>(ORDER);
        for (int i = 0; i < corners.size(); i++) {
            for (int j = i + 1; j < corners.size(); j++) {
                ways.add(minus(corners.get(j), corners.get(i)));
            }
        }
        List<long[]> list = new ArrayList<>(ways);
        for (int i = 0; i < list.size(); i++) {
            for (int j = i + 1; j < list.size(); j++) {
                long[] n = cross(list.get(i), list.get(j));
                if (dot(n, n) != 0) {
                    width = lesser(width, BigInteger.valueOf(extent(n)).pow(2), BigInteger.valueOf(dot(n, n)));
                }
            }
        }
        width = lowest(width[0], width[1]);
        return width;
    }

    private long extent(long[] n) {
        long low = Long.MAX_VALUE;
        long high = Long.MIN_VALUE;
        for (long[] p : corners) {
            low = Math.min(low, dot(n, p));
            high = Math.max(high, dot(n, p));
        }
        return high - low;
    }

    static BigInteger[] lesser(BigInteger[] old, BigInteger top, BigInteger bottom) {
        if (old == null || top.multiply(old[1]).compareTo(old[0].multiply(bottom)) < 0) {
            return new BigInteger[] {top, bottom};
        }
        return old;
    }

    static BigInteger[] lowest(BigInteger top, BigInteger bottom) {
        BigInteger g = top.gcd(bottom);
        return new BigInteger[] {top.divide(g), bottom.divide(g)};
    }

    /** 0 out, 1 on or in, 2 within. */
    int locate(long[] p, long q) {
        if (kind == 0) {
            return 0;
        }
        boolean isInner = kind == 4;
        for (long[] f : faces) {
            long h = dot(f, p) - f[3] * q;
            if (h > 0) {
                return 0;
            }
            isInner &= h < 0;
        }
        if (kind == 4) {
            return isInner ? 2 : 1;
        }
        if (kind == 3) {
            return isInLoop(p, q) ? 1 : 0;
        }
        // on a line: the two parts of the way, by their squares' roots, would have to make up the whole; so look at each axis
        long[] a = corners.get(0);
        long[] e = minus(corners.get(corners.size() - 1), a);
        long[] w = minus(p, times(a, q));
        long[] off = cross(w, e);
        boolean isBetween = dot(off, off) == 0;
        for (int i = 0; i < 3; i++) {
            isBetween &= w[i] * Long.signum(e[i]) >= 0 && Math.abs(w[i]) <= q * Math.abs(e[i]);
        }
        return isBetween ? 1 : 0;
    }

    /** The point is in the figure unless taking it in makes the loop's shadow larger. */
    private boolean isInLoop(long[] p, long q) {
        List<long[]> wide = new ArrayList<>();
        for (long[] c : corners) {
            wide.add(times(c, q));
        }
        long[] n = faces.get(0);
        long before = shadow(loop(wide, n), n);
        wide.add(p);
        return shadow(loop(wide, n), n) == before;
    }

    private static long shadow(List<long[]> loop, long[] n) {
        int axis = n[0] != 0 ? 0 : n[1] != 0 ? 1 : 2;
        long all = 0;
        long[] o = loop.get(0);
        for (int i = 1; i + 1 < loop.size(); i++) {
            all += cross(minus(loop.get(i), o), minus(loop.get(i + 1), o))[axis];
        }
        return Math.abs(all);
    }

    static long[] minus(long[] p, long[] q) {
        return new long[] {p[0] - q[0], p[1] - q[1], p[2] - q[2]};
    }

    static long[] plus(long[] p, long[] q) {
        return new long[] {p[0] + q[0], p[1] + q[1], p[2] + q[2]};
    }

    static long[] times(long[] p, long f) {
        return new long[] {p[0] * f, p[1] * f, p[2] * f};
    }

    static long dot(long[] p, long[] q) {
        return p[0] * q[0] + p[1] * q[1] + p[2] * q[2];
    }

    static long[] cross(long[] p, long[] q) {
        return new long[] {p[1] * q[2] - p[2] * q[1], p[2] * q[0] - p[0] * q[2], p[0] * q[1] - p[1] * q[0]};
    }

    static long gcd(long a, long b) {
        return b == 0 ? a : gcd(b, a % b);
    }
}
