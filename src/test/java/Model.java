import java.math.BigInteger;
import java.util.ArrayDeque;
import java.util.ArrayList;
import java.util.Deque;
import java.util.List;
import java.util.TreeSet;

/** The document's calls over Shape: what HullFoundry is held against. Every call answers a long (a boolean 1 or 0). */
final class Model {
    private final long[][][] trays = new long[8][][];
    final Shape[] solids = new Shape[8];
    private final Deque<Object[]> changes = new ArrayDeque<>();

    Model() {
        for (int i = 0; i < 8; i++) {
            solids[i] = new Shape(List.of());
        }
    }

    long call(String name, int[] v) {
        switch (name) {
            case "tray": return tray(v[0], v[1]);
            case "point": return point(v[0], v[1], v[2], v[3], v[4]);
            case "solid": return is(v[0]) && is(v[1]) && trays[v[1]] != null ? set(v[0], List.of(trays[v[1]])) : -1;
            case "grow": return grow(v[0], v[1], v[2], v[3]);
            case "count": return count(v[0], v[1]);
            case "corner": return corner(v[0], v[1], v[2]);
            case "edge": return edge(v[0], v[1], v[2]);
            case "face": return face(v[0], v[1], v[2]);
            case "in": return in(v[0], v[1], v[2], v[3], v[4]);
            case "side": return side(v[0], v[1], v[2], v[3], v[4]);
            case "volume": return is(v[0]) ? solids[v[0]].volume() : -1;
            case "middle": return middle(v[0], v[1], v[2]);
            case "far": return far(v[0], v[1]);
            case "width": return width(v[0], v[1]);
            case "sum": return sum(v[0], v[1], v[2]);
            case "apart": return apart(v[0], v[1]);
            case "near": return near(v[0], v[1], v[2]);
            case "same": return same(v[0], v[1]);
            case "move": return move(v[0], v[1], v[2], v[3]);
            case "mirror": return mirror(v[0], v[1]);
            case "turn": return turn(v[0], v[1]);
            case "copy": return copy(v[0], v[1]);
            case "undo": return undo();
            default: throw new IllegalStateException(name);
        }
    }

    private static boolean is(int i) {
        return 0 <= i && i < 8;
    }

    private static boolean isPoint(long... p) {
        for (long n : p) {
            if (Math.abs(n) > 100) {
                return false;
            }
        }
        return true;
    }

    private long tray(int t, int n) {
        if (!is(t) || n < -1 || n > 24) {
            return 0;
        }
        trays[t] = n == -1 ? null : new long[n][3];
        return 1;
    }

    private long point(int t, int k, long x, long y, long z) {
        if (!is(t) || trays[t] == null || k < 0 || k >= trays[t].length || !isPoint(x, y, z)) {
            return 0;
        }
        trays[t][k] = new long[] {x, y, z};
        return 1;
    }

    private long set(int s, List<long[]> points) {
        return set(s, new Shape(points));
    }

    private long set(int s, Shape shape) {
        if (shape.corners.size() > 24) {
            return -2;
        }
        for (long[] p : shape.corners) {
            if (!isPoint(p)) {
                return -2;
            }
        }
        changes.addLast(new Object[] {s, solids[s]});
        if (changes.size() > 8) {
            changes.removeFirst();
        }
        solids[s] = shape;
        return shape.kind;
    }

    private long grow(int s, long x, long y, long z) {
        if (!is(s) || !isPoint(x, y, z)) {
            return -1;
        }
        List<long[]> all = new ArrayList<>(solids[s].corners);
        all.add(new long[] {x, y, z});
        return set(s, all);
    }

    private long count(int s, int what) {
        if (!is(s) || what < 0 || what > 3) {
            return -1;
        }
        Shape b = solids[s];
        return List.of(b.kind, b.corners.size(), b.edges.size(), b.faces.size()).get(what);
    }

    private long corner(int s, int k, int axis) {
        boolean isThere = is(s) && k >= 0 && k < solids[s].corners.size() && axis >= 0 && axis < 3;
        return isThere ? solids[s].corners.get(k)[axis] : -1000;
    }

    private long edge(int s, int k, int what) {
        boolean isThere = is(s) && k >= 0 && k < solids[s].edges.size() && what >= 0 && what < 4;
        return isThere ? solids[s].edges.get(k)[what] : -1;
    }

    private long face(int s, int k, int what) {
        if (!is(s) || k < 0 || k >= solids[s].faces.size() || what < 0) {
            return -2000000000L;
        }
        List<Integer> ring = solids[s].rings.get(k);
        if (what < 6) {
            return what < 4 ? solids[s].faces.get(k)[what] : what == 4 ? ring.size() : solids[s].area(k);
        }
        return what - 6 < ring.size() ? ring.get(what - 6) : -2000000000L;
    }

    private long in(int s, long x, long y, long z, int q) {
        long most = Math.max(Math.abs(x), Math.max(Math.abs(y), Math.abs(z)));
        return !is(s) || q < 1 || q > 1000 || most > 1000000 ? -1 : solids[s].locate(new long[] {x, y, z}, q);
    }

    private long side(int s, long a, long b, long c, long d) {
        long most = Math.max(Math.abs(a), Math.max(Math.abs(b), Math.abs(c)));
        if (!is(s) || most == 0 || most > 1000 || Math.abs(d) > 1000000) {
            return -1;
        }
        long below = 0;
        long on = 0;
        long above = 0;
        for (long[] p : solids[s].corners) {
            long h = a * p[0] + b * p[1] + c * p[2];
            below = h < d ? 1 : below;
            on = h == d ? 2 : on;
            above = h > d ? 4 : above;
        }
        return below + on + above;
    }

    private long middle(int s, int axis, int what) {
        boolean isThere = is(s) && solids[s].kind == 4 && axis >= 0 && axis < 3 && (what == 0 || what == 1);
        return isThere ? solids[s].middle(axis)[what].longValueExact() : 0;
    }

    private long far(int s, int what) {
        if (!is(s) || solids[s].corners.size() < 2 || what < 0 || what > 2) {
            return -1;
        }
        List<long[]> all = solids[s].corners;
        long[] best = {-1, -1, -1};
        for (int i = 0; i < all.size(); i++) {
            for (int j = i + 1; j < all.size(); j++) {
                long[] e = Shape.minus(all.get(i), all.get(j));
                if (Shape.dot(e, e) > best[2]) {
                    best = new long[] {i, j, Shape.dot(e, e)};
                }
            }
        }
        return best[what];
    }

    private long width(int s, int what) {
        boolean isThere = is(s) && solids[s].kind == 4 && (what == 0 || what == 1);
        return isThere ? solids[s].width()[what].longValueExact() : -1;
    }

    private long sum(int a, int b, int to) {
        return is(a) && is(b) && is(to) ? set(to, sumOf(solids[a], solids[b])) : -1;
    }

    private static Shape sumOf(Shape a, Shape b) {
        TreeSet<long[]> sums = new TreeSet<>(Shape.ORDER);
        for (long[] p : a.corners) {
            for (long[] q : b.corners) {
                sums.add(Shape.plus(p, q));
            }
        }
        List<long[]> all = new ArrayList<>(sums);
        if (all.size() <= 64 || Shape.kindOf(all) < 4) {
            return new Shape(all);
        }
        // too many for all triples: a face of the sum lies across two ways of edges
        TreeSet<long[]> found = new TreeSet<>(Shape.ORDER);
        List<long[]> ways = ways(a);
        ways.addAll(ways(b));
        for (long[] u : ways) {
            for (long[] v : ways) {
                long[] n = Shape.cross(u, v);
                if (Shape.dot(n, n) != 0) {
                    List<long[]> top = new ArrayList<>();
                    for (long[] p : topOf(a, n)) {
                        for (long[] q : topOf(b, n)) {
                            top.add(Shape.plus(p, q));
                        }
                    }
                    if (Shape.kindOf(new Shape(top).corners) == 3) {
                        found.addAll(Shape.loop(top, n));
                    }
                }
            }
        }
        return found.size() > 64 ? new Shape(new ArrayList<>(found).subList(0, 64)) : new Shape(found);
    }

    private static List<long[]> ways(Shape a) {
        List<long[]> ways = new ArrayList<>();
        for (int[] e : a.edges) {
            ways.add(Shape.minus(a.corners.get(e[1]), a.corners.get(e[0])));
        }
        return ways;
    }

    private static List<long[]> topOf(Shape a, long[] n) {
        long most = Long.MIN_VALUE;
        List<long[]> top = new ArrayList<>();
        for (long[] p : a.corners) {
            if (Shape.dot(n, p) > most) {
                top.clear();
                most = Shape.dot(n, p);
            }
            if (Shape.dot(n, p) == most) {
                top.add(p);
            }
        }
        return top;
    }

    private long apart(int a, int b) {
        if (!is(a) || !is(b)) {
            return -1;
        }
        return solids[a].kind == 0 || solids[b].kind == 0 || gap(solids[a], solids[b])[0].signum() > 0 ? 1 : 0;
    }

    private long near(int a, int b, int what) {
        boolean isThere = is(a) && is(b) && (what == 0 || what == 1) && solids[a].kind > 0 && solids[b].kind > 0;
        return isThere ? gap(solids[a], solids[b])[what].longValueExact() : -1;
    }

    /** Over all pairs of corner and corner, corner and edge, corner and face, edge and edge, edge and face. */
    static BigInteger[] gap(Shape a, Shape b) {
        BigInteger[] best = half(a, b, half(b, a, null));
        for (int[] e : a.edges) {
            for (int[] g : b.edges) {
                best = betweenEdges(a, e, b, g, best);
            }
        }
        return Shape.lowest(best[0], best[1]);
    }

    private static BigInteger[] half(Shape a, Shape b, BigInteger[] start) {
        BigInteger[] best = start;
        for (long[] p : a.corners) {
            if (b.locate(p, 1) > 0) {
                best = lesser(best, 0, 1);
            }
            for (long[] q : b.corners) {
                long[] w = Shape.minus(p, q);
                best = lesser(best, Shape.dot(w, w), 1);
            }
            for (int[] e : b.edges) {
                long[] q = b.corners.get(e[0]);
                long[] u = Shape.minus(b.corners.get(e[1]), q);
                long[] w = Shape.minus(p, q);
                long[] off = Shape.cross(u, w);
                if (Shape.dot(u, w) > 0 && Shape.dot(u, w) < Shape.dot(u, u)) {
                    best = lesser(best, Shape.dot(off, off), Shape.dot(u, u));
                }
            }
            for (int f = 0; f < b.faces.size(); f++) {
                long h = Shape.dot(b.faces.get(f), p) - b.faces.get(f)[3];
                if (isOver(b, f, p)) {
                    best = lesser(best, h * h, Shape.dot(b.faces.get(f), b.faces.get(f)));
                }
            }
        }
        for (int[] e : a.edges) {
            for (int f = 0; f < b.faces.size(); f++) {
                if (pierces(a.corners.get(e[0]), a.corners.get(e[1]), b, f)) {
                    best = lesser(best, 0, 1);
                }
            }
        }
        return best;
    }

    private static BigInteger[] lesser(BigInteger[] best, long top, long bottom) {
        return Shape.lesser(best, BigInteger.valueOf(top), BigInteger.valueOf(bottom));
    }

    private static boolean isOver(Shape b, int f, long[] p) {
        List<Integer> ring = b.rings.get(f);
        for (int i = 0; i < ring.size(); i++) {
            long[] u = b.corners.get(ring.get(i));
            long[] v = b.corners.get(ring.get((i + 1) % ring.size()));
            if (Shape.dot(b.faces.get(f), Shape.cross(Shape.minus(v, u), Shape.minus(p, u))) < 0) {
                return false;
            }
        }
        return true;
    }

    private static boolean pierces(long[] p, long[] q, Shape b, int f) {
        long[] n = b.faces.get(f);
        long hp = Shape.dot(n, p) - n[3];
        long hq = Shape.dot(n, q) - n[3];
        if (Long.signum(hp) * Long.signum(hq) >= 0) {
            return false;
        }
        List<Integer> ring = b.rings.get(f);
        int signs = 0;
        for (int i = 0; i < ring.size(); i++) {
            long[] u = Shape.minus(b.corners.get(ring.get(i)), p);
            long[] v = Shape.minus(b.corners.get(ring.get((i + 1) % ring.size())), p);
            long box = Shape.dot(Shape.minus(q, p), Shape.cross(u, v));
            signs |= box < 0 ? 1 : box > 0 ? 2 : 0;
        }
        return signs != 3;
    }

    private static BigInteger[] betweenEdges(Shape a, int[] e, Shape b, int[] g, BigInteger[] best) {
        long[] p = a.corners.get(e[0]);
        long[] q = b.corners.get(g[0]);
        long[] u = Shape.minus(a.corners.get(e[1]), p);
        long[] v = Shape.minus(b.corners.get(g[1]), q);
        long[] r = Shape.minus(p, q);
        long uu = Shape.dot(u, u);
        long uv = Shape.dot(u, v);
        long vv = Shape.dot(v, v);
        long bottom = uu * vv - uv * uv;
        long s = uv * Shape.dot(v, r) - vv * Shape.dot(u, r);
        long t = uu * Shape.dot(v, r) - uv * Shape.dot(u, r);
        if (bottom == 0 || s < 0 || s > bottom || t < 0 || t > bottom) {
            return best;
        }
        long h = Shape.dot(Shape.cross(u, v), r);
        return lesser(best, h * h, bottom);
    }

    private long same(int a, int b) {
        if (!is(a) || !is(b)) {
            return -1;
        }
        List<long[]> p = solids[a].corners;
        List<long[]> q = solids[b].corners;
        boolean isSame = p.size() == q.size();
        for (int i = 0; i < p.size() && isSame; i++) {
            isSame = Shape.ORDER.compare(p.get(i), q.get(i)) == 0;
        }
        return isSame ? 1 : 0;
    }

    private interface Change {
        long[] of(long[] p);
    }

    private boolean change(int s, int to, Change change) {
        List<long[]> all = new ArrayList<>();
        for (long[] p : solids[s].corners) {
            all.add(change.of(p));
        }
        return set(to, all) != -2;
    }

    private long move(int s, long dx, long dy, long dz) {
        return is(s) && change(s, s, p -> new long[] {p[0] + dx, p[1] + dy, p[2] + dz}) ? 1 : 0;
    }

    private long mirror(int s, int axis) {
        if (!is(s) || axis < 0 || axis > 3) {
            return 0;
        }
        change(s, s, p -> {
            long[] q = p.clone();
            for (int i = 0; i < 3; i++) {
                q[i] = axis == i || axis == 3 ? -q[i] : q[i];
            }
            return q;
        });
        return 1;
    }

    private long turn(int s, int axis) {
        if (!is(s) || axis < 0 || axis > 2) {
            return 0;
        }
        change(s, s, p -> axis == 0 ? new long[] {p[0], -p[2], p[1]}
            : axis == 1 ? new long[] {p[2], p[1], -p[0]} : new long[] {-p[1], p[0], p[2]});
        return 1;
    }

    private long copy(int s, int to) {
        return is(s) && is(to) && change(s, to, p -> p) ? 1 : 0;
    }

    private long undo() {
        if (changes.isEmpty()) {
            return -1;
        }
        Object[] last = changes.removeLast();
        solids[(Integer) last[0]] = (Shape) last[1];
        return changes.size();
    }
}
