import java.util.Arrays;

/**
 * A foundry for solids that bulge nowhere inward, reckoned without rounding.
 *
 * All rows are made in the constructor and used again, so that no later call makes an object.
 */
public final class HullFoundry {
    public static final int NONE = -1;

    private static final int SLOTS = 8;
    private static final int MOST_POINTS = 24;
    private static final int FARTHEST = 100;
    private static final int CHANGES_KEPT = 8;
    private static final int REFUSED = -2;
    private static final int NO_CORNER = -1000;
    private static final long NO_FACE = -2000000000L;
    private static final int MOST_BELOW = 1000;
    private static final int MOST_ABOVE = 1000000;
    private static final int MOST_SLOPE = 1000;
    /** Far above what any loop needs that stops by itself. */
    private static final int MOST_ROUNDS = 100000;

    private final Points[] trays = new Points[SLOTS];
    private final boolean[] isThere = new boolean[SLOTS];
    private final Body[] solids = new Body[SLOTS];
    /** What was taken back or never used stands behind the first 'changes' ones, idle until the next change. */
    private final Body[] before = new Body[CHANGES_KEPT];
    private final int[] changedSolid = new int[CHANGES_KEPT];
    private int changes = 0;
    /** The next SOLID is built here, so that a refused one leaves all as it was. */
    private Body fresh = new Body();
    private final Points scratch = new Points(MOST_POINTS + 1);
    private final Points origin = new Points(1);
    private final Points shift = new Points(1);
    private final Hull hull = new Hull();
    private final Gap gap = new Gap();
    private final Ratio ratio = new Ratio();

    public HullFoundry() {
        for (int i = 0; i < SLOTS; i++) {
            trays[i] = new Points(MOST_POINTS);
            solids[i] = new Body();
        }
        for (int i = 0; i < CHANGES_KEPT; i++) {
            before[i] = new Body();
        }
        origin.put(0, 0, 0);
    }

    public boolean tray(int t, int n) {
        if (!isSlot(t) || n < NONE || n > MOST_POINTS) {
            return false;
        }
        isThere[t] = n != NONE;
        trays[t].clear();
        for (int k = 0; k < n; k++) {
            trays[t].put(0, 0, 0);
        }
        return true;
    }

    public boolean point(int t, int k, int x, int y, int z) {
        if (!isSlot(t) || !isThere[t] || !isPoint(x, y, z)) {
            return false;
        }
        return trays[t].replace(k, x, y, z);
    }

    public int solid(int s, int t) {
        if (!isSlot(s) || !isSlot(t) || !isThere[t]) {
            return NONE;
        }
        return become(s, trays[t], origin);
    }

    public int grow(int s, int x, int y, int z) {
        if (!isSlot(s) || !isPoint(x, y, z)) {
            return NONE;
        }
        scratch.takeAll(solids[s].corners);
        scratch.put(x, y, z);
        return become(s, scratch, origin);
    }

    public int count(int s, int what) {
        if (!isSlot(s)) {
            return NONE;
        }
        Body body = solids[s];
        switch (what) {
            case 0:
                return body.kind;
            case 1:
                return body.corners.size;
            case 2:
                return body.edges;
            case 3:
                return body.faces;
            default:
                return NONE;
        }
    }

    public int corner(int s, int k, int axis) {
        if (!isSlot(s) || k < 0 || k >= solids[s].corners.size) {
            return NO_CORNER;
        }
        Points corners = solids[s].corners;
        switch (axis) {
            case 0:
                return corners.x[k];
            case 1:
                return corners.y[k];
            case 2:
                return corners.z[k];
            default:
                return NO_CORNER;
        }
    }

    public int edge(int s, int k, int what) {
        if (!isSlot(s) || k < 0 || k >= solids[s].edges || what < 0 || what > 3) {
            return NONE;
        }
        return solids[s].edgeRow[4 * k + what];
    }

    public long face(int s, int k, int what) {
        if (!isSlot(s) || k < 0 || k >= solids[s].faces || what < 0) {
            return NO_FACE;
        }
        Body body = solids[s];
        if (what <= 3) {
            return body.planes[4 * k + what];
        }
        int start = body.ringStart[k];
        int length = body.ringStart[k + 1] - start;
        if (what == 4) {
            return length;
        }
        if (what == 5) {
            return body.wholeArea(k);
        }
        return what - 6 < length ? body.rings[start + what - 6] : NO_FACE;
    }

    // ---- measures

    public int in(int s, int x, int y, int z, int q) {
        if (!isSlot(s) || q < 1 || q > MOST_BELOW) {
            return NONE;
        }
        if (!isWithin(x, MOST_ABOVE) || !isWithin(y, MOST_ABOVE) || !isWithin(z, MOST_ABOVE)) {
            return NONE;
        }
        return solids[s].locate(x, y, z, q);
    }

    public int side(int s, int a, int b, int c, int d) {
        if (!isSlot(s) || (a == 0 && b == 0 && c == 0) || !isWithin(d, MOST_ABOVE)) {
            return NONE;
        }
        if (!isWithin(a, MOST_SLOPE) || !isWithin(b, MOST_SLOPE) || !isWithin(c, MOST_SLOPE)) {
            return NONE;
        }
        Points corners = solids[s].corners;
        int sides = 0;
        for (int k = 0; k < corners.size; k++) {
            long height = corners.along(k, a, b, c) - d;
            sides |= height < 0 ? 1 : height == 0 ? 2 : 4;
        }
        return sides;
    }

    public long volume(int s) {
        return isSlot(s) ? solids[s].sixVolumes() : NONE;
    }

    public long middle(int s, int axis, int what) {
        if (!isSlot(s) || solids[s].kind != 4 || axis < 0 || axis > 2 || !isTopOrBottom(what)) {
            return 0;
        }
        ratio.put(solids[s].moment(axis), 4 * solids[s].sixVolumes());
        return ratio.part(what);
    }

    public int far(int s, int what) {
        if (!isSlot(s) || solids[s].corners.size < 2) {
            return NONE;
        }
        Points corners = solids[s].corners;
        int first = 0;
        int second = 1;
        for (int i = 0; i < corners.size; i++) {
            for (int j = i + 1; j < corners.size; j++) {
                if (corners.squareBetween(i, j) > corners.squareBetween(first, second)) {
                    first = i;
                    second = j;
                }
            }
        }
        switch (what) {
            case 0:
                return first;
            case 1:
                return second;
            case 2:
                return corners.squareBetween(first, second);
            default:
                return NONE;
        }
    }

    public long width(int s, int what) {
        if (!isSlot(s) || solids[s].kind != 4 || !isTopOrBottom(what)) {
            return NONE;
        }
        solids[s].reckonSlit();
        return solids[s].slit.part(what);
    }

    // ---- two solids

    public int sum(int a, int b, int to) {
        if (!isSlot(a) || !isSlot(b) || !isSlot(to)) {
            return NONE;
        }
        return become(to, solids[a].corners, solids[b].corners);
    }

    public int apart(int a, int b) {
        if (!isSlot(a) || !isSlot(b)) {
            return NONE;
        }
        if (solids[a].kind == 0 || solids[b].kind == 0) {
            return 1;
        }
        gap.reckon(solids[a].corners, solids[b].corners);
        return gap.top > 0 ? 1 : 0;
    }

    public long near(int a, int b, int what) {
        if (!isSlot(a) || !isSlot(b) || !isTopOrBottom(what)) {
            return NONE;
        }
        if (solids[a].kind == 0 || solids[b].kind == 0) {
            return NONE;
        }
        gap.reckon(solids[a].corners, solids[b].corners);
        ratio.put(gap.top, gap.bottom);
        return ratio.part(what);
    }

    public int same(int a, int b) {
        if (!isSlot(a) || !isSlot(b)) {
            return NONE;
        }
        return solids[a].corners.isLike(solids[b].corners) ? 1 : 0;
    }

    // ---- changes

    public boolean move(int s, int dx, int dy, int dz) {
        if (!isSlot(s)) {
            return false;
        }
        Points corners = solids[s].corners;
        int most = 2 * FARTHEST;
        boolean canStay = isWithin(dx, most) && isWithin(dy, most) && isWithin(dz, most);
        if (corners.size > 0 && !canStay) {
            return false;
        }
        shift.clear();
        shift.put(dx, dy, dz);
        return become(s, corners, shift) != REFUSED;
    }

    public boolean mirror(int s, int axis) {
        if (!isSlot(s) || axis < 0 || axis > 3) {
            return false;
        }
        Points from = solids[s].corners;
        int signX = axis == 0 || axis == 3 ? -1 : 1;
        int signY = axis == 1 || axis == 3 ? -1 : 1;
        int signZ = axis == 2 || axis == 3 ? -1 : 1;
        scratch.clear();
        for (int k = 0; k < from.size; k++) {
            scratch.put(signX * from.x[k], signY * from.y[k], signZ * from.z[k]);
        }
        become(s, scratch, origin);
        return true;
    }

    public boolean turn(int s, int axis) {
        if (!isSlot(s) || axis < 0 || axis > 2) {
            return false;
        }
        Points from = solids[s].corners;
        scratch.clear();
        for (int k = 0; k < from.size; k++) {
            int x = from.x[k];
            int y = from.y[k];
            int z = from.z[k];
            if (axis == 0) {
                scratch.put(x, -z, y);
            } else if (axis == 1) {
                scratch.put(z, y, -x);
            } else {
                scratch.put(-y, x, z);
            }
        }
        become(s, scratch, origin);
        return true;
    }

    public boolean copy(int s, int to) {
        if (!isSlot(s) || !isSlot(to)) {
            return false;
        }
        become(to, solids[s].corners, origin);
        return true;
    }

    public int undo() {
        if (changes == 0) {
            return NONE;
        }
        changes--;
        int s = changedSolid[changes];
        Body idle = solids[s];
        solids[s] = before[changes];
        before[changes] = idle;
        return changes;
    }

    private static boolean isSlot(int i) {
        return i >= 0 && i < SLOTS;
    }

    private static boolean isTopOrBottom(int what) {
        return what == 0 || what == 1;
    }

    private static boolean isWithin(int number, int most) {
        return number >= -most && number <= most;
    }

    /** Asks no one else, because Hull comes here seven calls deep. */
    private static boolean isPoint(int x, int y, int z) {
        return x >= -FARTHEST && x <= FARTHEST
            && y >= -FARTHEST && y <= FARTHEST
            && z >= -FARTHEST && z <= FARTHEST;
    }

    /** A greatest common divisor of numbers not below 0. */
    private static long divisor(long a, long b) {
        long greater = a;
        long lesser = b;
        for (int round = 0; round < MOST_ROUNDS && lesser > 0; round++) {
            long rest = greater % lesser;
            greater = lesser;
            lesser = rest;
        }
        return greater;
    }

    /** SOLID s becomes the SUM of what lies between two rows of points: its KIND, or REFUSED. */
    private int become(int s, Points a, Points b) {
        int kind = hull.build(a, b, fresh);
        if (kind != REFUSED) {
            keepFresh(s);
        }
        return kind;
    }

    private void keepFresh(int s) {
        if (changes == CHANGES_KEPT) {
            forgetOldest();
        }
        Body idle = before[changes];
        before[changes] = solids[s];
        changedSolid[changes] = s;
        changes++;
        solids[s] = fresh;
        fresh = idle;
    }

    private void forgetOldest() {
        Body oldest = before[0];
        for (int i = 1; i < CHANGES_KEPT; i++) {
            before[i - 1] = before[i];
            changedSolid[i - 1] = changedSolid[i];
        }
        changes = CHANGES_KEPT - 1;
        before[changes] = oldest;
    }

    /** A row of whole points with a fixed room. */
    private static final class Points {
        int size = 0;
        final int[] x;
        final int[] y;
        final int[] z;

        Points(int room) {
            x = new int[room];
            y = new int[room];
            z = new int[room];
        }

        void clear() {
            size = 0;
        }

        void put(int px, int py, int pz) {
            if (size < x.length) {
                x[size] = px;
                y[size] = py;
                z[size] = pz;
                size++;
            }
        }

        boolean replace(int k, int px, int py, int pz) {
            if (k < 0 || k >= size) {
                return false;
            }
            x[k] = px;
            y[k] = py;
            z[k] = pz;
            return true;
        }

        void takeAll(Points from) {
            clear();
            for (int k = 0; k < from.size; k++) {
                put(from.x[k], from.y[k], from.z[k]);
            }
        }

        /** Puts a point where it belongs by x, then y, then z. */
        void putInOrder(int px, int py, int pz) {
            if (size >= x.length) {
                return;
            }
            int place = size;
            size++;
            while (place > 0 && isLess(px, py, pz, place - 1)) {
                replace(place, x[place - 1], y[place - 1], z[place - 1]);
                place--;
            }
            replace(place, px, py, pz);
        }

        boolean isLess(int px, int py, int pz, int k) {
            if (px != x[k]) {
                return px < x[k];
            }
            return py != y[k] ? py < y[k] : pz < z[k];
        }

        long along(int k, long mx, long my, long mz) {
            return mx * x[k] + my * y[k] + mz * z[k];
        }

        /**
         * The point farthest along m, of several the greatest: a point between others would not be that,
         * so the answer is always a corner of all that lies between the points.
         */
        int farthest(long mx, long my, long mz) {
            int best = 0;
            long most = mx * x[0] + my * y[0] + mz * z[0];
            for (int k = 1; k < size; k++) {
                long now = mx * x[k] + my * y[k] + mz * z[k];
                boolean isGreater = x[k] != x[best] ? x[k] > x[best]
                    : y[k] != y[best] ? y[k] > y[best] : z[k] > z[best];
                if (now > most || (now == most && isGreater)) {
                    best = k;
                    most = now;
                }
            }
            return best;
        }

        int squareBetween(int i, int j) {
            int dx = x[i] - x[j];
            int dy = y[i] - y[j];
            int dz = z[i] - z[j];
            return dx * dx + dy * dy + dz * dz;
        }

        boolean isLike(Points other) {
            if (size != other.size) {
                return false;
            }
            for (int k = 0; k < size; k++) {
                if (x[k] != other.x[k] || y[k] != other.y[k] || z[k] != other.z[k]) {
                    return false;
                }
            }
            return true;
        }

        /** Six times the volume between four points: above 0 if i, j, k go round with the clock, seen from o. */
        long boxOf(int o, int i, int j, int k) {
            return acrossX(o, i, j) * (x[k] - x[o])
                + acrossY(o, i, j) * (y[k] - y[o])
                + acrossZ(o, i, j) * (z[k] - z[o]);
        }

        /** The way across the plane of three points, which points to an eye that sees them against the clock. */
        long acrossX(int o, int i, int j) {
            return (long) (y[i] - y[o]) * (z[j] - z[o]) - (long) (z[i] - z[o]) * (y[j] - y[o]);
        }

        long acrossY(int o, int i, int j) {
            return (long) (z[i] - z[o]) * (x[j] - x[o]) - (long) (x[i] - x[o]) * (z[j] - z[o]);
        }

        long acrossZ(int o, int i, int j) {
            return (long) (x[i] - x[o]) * (y[j] - y[o]) - (long) (y[i] - y[o]) * (x[j] - x[o]);
        }
    }

    /** A fraction in lowest terms, above 0 below the line; 0 there as long as there is none. */
    private static final class Ratio {
        long top = 0;
        long bottom = 0;

        void put(long newTop, long newBottom) {
            long common = divisor(Math.abs(newTop), newBottom);
            if (common > 0) {
                top = newTop / common;
                bottom = newBottom / common;
            }
        }

        long part(int what) {
            return what == 0 ? top : bottom;
        }

        /**
         * Whether this is more than a / b, none of them below 0. Products across would not fit a long, so the
         * whole parts are compared, then what is left over turned upside down.
         */
        boolean isAbove(long a, long b) {
            long leftTop = top;
            long leftBottom = bottom;
            long rightTop = a;
            long rightBottom = b;
            for (int round = 0; round < MOST_ROUNDS && leftBottom > 0 && rightBottom > 0; round++) {
                long leftWhole = leftTop / leftBottom;
                long rightWhole = rightTop / rightBottom;
                if (leftWhole != rightWhole) {
                    return leftWhole > rightWhole;
                }
                long leftRest = leftTop % leftBottom;
                long rightRest = rightTop % rightBottom;
                if (leftRest == 0 || rightRest == 0) {
                    return leftRest > rightRest;
                }
                leftTop = rightBottom;
                rightTop = leftBottom;
                leftBottom = rightRest;
                rightBottom = leftRest;
            }
            return false;
        }
    }

    /** A SOLID: its CORNERS, FACES and EDGES. */
    private static final class Body {
        static final int MOST_FACES = 2 * MOST_POINTS - 4;
        static final int MOST_EDGES = 3 * MOST_POINTS - 6;

        int kind = 0;
        final Points corners = new Points(MOST_POINTS);
        int faces = 0;
        /** Of each FACE: a, b, c, d. */
        final int[] planes = new int[4 * MOST_FACES];
        /** Where each FACE's RING begins in 'rings'; one place more, for the end of the last. */
        final int[] ringStart = new int[MOST_FACES + 1];
        final int[] rings = new int[2 * MOST_EDGES];
        int edges = 0;
        /** Of each EDGE: two CORNERS, two FACES. */
        final int[] edgeRow = new int[4 * MOST_EDGES];
        /** The WIDTH, reckoned when it is first asked for: it costs more than all else together. */
        final Ratio slit = new Ratio();

        void clear() {
            kind = 0;
            corners.clear();
            faces = 0;
            edges = 0;
            slit.bottom = 0;
        }

        /** Adds a FACE where it belongs by a, then b, then c; a plane that is there already is left alone. */
        void addPlane(int a, int b, int c, int d) {
            int common = (int) divisor(divisor(Math.abs(a), Math.abs(b)), Math.abs(c));
            if (common == 0 || faces >= MOST_FACES) {
                return;
            }
            int place = 0;
            while (place < faces && comparePlane(place, a / common, b / common, c / common) < 0) {
                place++;
            }
            if (place < faces && comparePlane(place, a / common, b / common, c / common) == 0) {
                return;
            }
            System.arraycopy(planes, 4 * place, planes, 4 * place + 4, 4 * (faces - place));
            planes[4 * place] = a / common;
            planes[4 * place + 1] = b / common;
            planes[4 * place + 2] = c / common;
            planes[4 * place + 3] = d / common;
            faces++;
        }

        /** No two FACES look the same way, so d never decides. */
        private int comparePlane(int f, int a, int b, int c) {
            if (planes[4 * f] != a) {
                return Integer.compare(planes[4 * f], a);
            }
            if (planes[4 * f + 1] != b) {
                return Integer.compare(planes[4 * f + 1], b);
            }
            return Integer.compare(planes[4 * f + 2], c);
        }

        /** How far q times the plane of a FACE is exceeded by a point; 0 on it. */
        private long excess(int f, long px, long py, long pz, long q) {
            return planes[4 * f] * px + planes[4 * f + 1] * py + planes[4 * f + 2] * pz - planes[4 * f + 3] * q;
        }

        void layRings() {
            int end = 0;
            for (int f = 0; f < faces; f++) {
                ringStart[f] = end;
                end = layRing(f, end);
            }
            ringStart[faces] = end;
        }

        private int layRing(int f, int start) {
            int end = start;
            for (int k = 0; k < corners.size && end < rings.length; k++) {
                if (excess(f, corners.x[k], corners.y[k], corners.z[k], 1) == 0) {
                    rings[end] = k;
                    end++;
                }
            }
            for (int i = start; i + 2 < end; i++) {
                int next = i + 1;
                for (int j = i + 2; j < end; j++) {
                    if (facing(f, rings[i], rings[next], rings[j]) < 0) {
                        next = j;
                    }
                }
                int passed = rings[i + 1];
                rings[i + 1] = rings[next];
                rings[next] = passed;
            }
            return end;
        }

        /** The AREA of a triangle of CORNERS, drawn out by how steep its FACE is; below 0 if it goes with the clock. */
        private long facing(int f, int i, int j, int k) {
            return planes[4 * f] * corners.acrossX(i, j, k)
                + planes[4 * f + 1] * corners.acrossY(i, j, k)
                + planes[4 * f + 2] * corners.acrossZ(i, j, k);
        }

        /** 'faceAt' is a table to write on: the FACE whose RING goes on from one CORNER to another. */
        void layEdges(int[] faceAt) {
            if (kind == 2) {
                addEdge(0, 1, NONE, NONE);
                return;
            }
            Arrays.fill(faceAt, NONE);
            for (int f = 0; f < faces; f++) {
                for (int i = ringStart[f]; i < ringStart[f + 1]; i++) {
                    int next = i + 1 < ringStart[f + 1] ? i + 1 : ringStart[f];
                    faceAt[rings[i] * MOST_POINTS + rings[next]] = f;
                }
            }
            for (int u = 0; u < corners.size; u++) {
                for (int w = u + 1; w < corners.size; w++) {
                    int there = faceAt[u * MOST_POINTS + w];
                    int back = faceAt[w * MOST_POINTS + u];
                    if (there != NONE && back != NONE) {
                        addEdge(u, w, Math.min(there, back), Math.max(there, back));
                    }
                }
            }
        }

        private void addEdge(int u, int w, int f, int g) {
            if (edges < MOST_EDGES) {
                edgeRow[4 * edges] = u;
                edgeRow[4 * edges + 1] = w;
                edgeRow[4 * edges + 2] = f;
                edgeRow[4 * edges + 3] = g;
                edges++;
            }
        }

        /** The whole number of a FACE's AREA. */
        long wholeArea(int f) {
            long drawnOut = 0;
            int start = ringStart[f];
            for (int i = start + 1; i + 1 < ringStart[f + 1]; i++) {
                drawnOut += facing(f, rings[start], rings[i], rings[i + 1]);
            }
            long steepness = steepness(planes[4 * f], planes[4 * f + 1], planes[4 * f + 2]);
            return steepness > 0 ? drawnOut / steepness : 0;
        }

        private static long steepness(long a, long b, long c) {
            return a * a + b * b + c * c;
        }

        long sixVolumes() {
            return addUpPieces(3);
        }

        /** Twenty-four times the VOLUME times the MIDDLE's number of an axis. */
        long moment(int axis) {
            return addUpPieces(axis);
        }

        /** Cuts the SOLID into pieces of four CORNERS, all with CORNER 0; axis 3 counts each piece's size alone. */
        private long addUpPieces(int axis) {
            if (kind != 4) {
                return 0;
            }
            int[] row = axis == 0 ? corners.x : axis == 1 ? corners.y : corners.z;
            long all = 0;
            for (int f = 0; f < faces; f++) {
                int first = rings[ringStart[f]];
                for (int i = ringStart[f] + 1; i + 1 < ringStart[f + 1]; i++) {
                    int second = rings[i];
                    int third = rings[i + 1];
                    long reach = axis == 3 ? 1 : (long) row[0] + row[first] + row[second] + row[third];
                    all += reach * corners.boxOf(0, first, second, third);
                }
            }
            return all;
        }

        /** 0 out, 1 on, 2 within, of a point with q below the line. */
        int locate(long px, long py, long pz, long q) {
            if (kind == 0) {
                return 0;
            }
            if (kind == 4) {
                return locateAmongFaces(px, py, pz, q);
            }
            boolean isIn = kind == 3 ? isInFigure(px, py, pz, q) : isOnLine(px, py, pz, q);
            return isIn ? 1 : 0;
        }

        private int locateAmongFaces(long px, long py, long pz, long q) {
            int answer = 2;
            for (int f = 0; f < faces; f++) {
                long excess = excess(f, px, py, pz, q);
                if (excess > 0) {
                    return 0;
                }
                if (excess == 0) {
                    answer = 1;
                }
            }
            return answer;
        }

        private boolean isInFigure(long px, long py, long pz, long q) {
            if (faces == 0 || excess(0, px, py, pz, q) != 0) {
                return false;
            }
            for (int i = 0; i < ringStart[1]; i++) {
                int u = rings[i];
                int w = rings[i + 1 < ringStart[1] ? i + 1 : 0];
                long ex = corners.x[w] - corners.x[u];
                long ey = corners.y[w] - corners.y[u];
                long ez = corners.z[w] - corners.z[u];
                long outward = (ey * planes[2] - ez * planes[1]) * (px - q * corners.x[u])
                    + (ez * planes[0] - ex * planes[2]) * (py - q * corners.y[u])
                    + (ex * planes[1] - ey * planes[0]) * (pz - q * corners.z[u]);
                if (outward > 0) {
                    return false;
                }
            }
            return true;
        }

        /** KIND 1 counts as a line from its CORNER to itself. */
        private boolean isOnLine(long px, long py, long pz, long q) {
            int end = corners.size - 1;
            if (end < 0) {
                return false;
            }
            long ex = corners.x[end] - corners.x[0];
            long ey = corners.y[end] - corners.y[0];
            long ez = corners.z[end] - corners.z[0];
            long wx = px - q * corners.x[0];
            long wy = py - q * corners.y[0];
            long wz = pz - q * corners.z[0];
            if (end == 0) {
                return wx == 0 && wy == 0 && wz == 0;
            }
            if (ey * wz != ez * wy || ez * wx != ex * wz || ex * wy != ey * wx) {
                return false;
            }
            long way = ex * wx + ey * wy + ez * wz;
            return way >= 0 && way <= q * steepness(ex, ey, ez);
        }

        /** The narrowest pair of planes either has a FACE in one of them or an EDGE in each. */
        void reckonSlit() {
            if (kind != 4 || slit.bottom > 0) {
                return;
            }
            for (int f = 0; f < faces; f++) {
                int a = planes[4 * f];
                int b = planes[4 * f + 1];
                int c = planes[4 * f + 2];
                int lowest = corners.farthest(-a, -b, -c);
                offerSlit(planes[4 * f + 3] - corners.along(lowest, a, b, c), steepness(a, b, c));
            }
            for (int e = 0; e < edges; e++) {
                for (int g = e + 1; g < edges; g++) {
                    offerEdges(e, g);
                }
            }
        }

        private void offerSlit(long gap, long steepness) {
            if (slit.bottom == 0 || slit.isAbove(gap * gap, steepness)) {
                slit.put(gap * gap, steepness);
            }
        }

        /**
         * Counts two EDGES if each lies on the SOLID's bounds in the plane through it along the other one: then these
         * are two planes with the SOLID between them, or one and the same, or the EDGES lie the same way.
         */
        private void offerEdges(int e, int g) {
            int u = edgeRow[4 * e];
            int v = edgeRow[4 * e + 1];
            int w = edgeRow[4 * g];
            int t = edgeRow[4 * g + 1];
            long ax = corners.x[v] - corners.x[u];
            long ay = corners.y[v] - corners.y[u];
            long az = corners.z[v] - corners.z[u];
            long bx = corners.x[t] - corners.x[w];
            long by = corners.y[t] - corners.y[w];
            long bz = corners.z[t] - corners.z[w];
            if (!isPassedBy(e, bx, by, bz) || !isPassedBy(g, ax, ay, az)) {
                return;
            }
            long nx = ay * bz - az * by;
            long ny = az * bx - ax * bz;
            long nz = ax * by - ay * bx;
            long between = corners.along(u, nx, ny, nz) - corners.along(w, nx, ny, nz);
            if (between != 0) {
                offerSlit(between, steepness(nx, ny, nz));
            }
        }

        /** Whether an EDGE's plane along m has the SOLID on one side: not if m leads out of both FACES or into both. */
        private boolean isPassedBy(int e, long mx, long my, long mz) {
            int f = 4 * edgeRow[4 * e + 2];
            int g = 4 * edgeRow[4 * e + 3];
            long out = planes[f] * mx + planes[f + 1] * my + planes[f + 2] * mz;
            long back = planes[g] * mx + planes[g + 1] * my + planes[g + 2] * mz;
            return out <= 0 && back >= 0 || out >= 0 && back <= 0;
        }
    }

    /** A closed skin of triangles, each against the clock as seen from outside. */
    private static final class Shell {
        static final int PROP = 3;
        /** One knot more than CORNERS: the prop that makes a plane figure a pyramid. */
        static final int MOST_KNOTS = MOST_POINTS + 1;
        static final int MOST_TRIANGLES = 2 * MOST_KNOTS - 4;

        final Points knots = new Points(MOST_KNOTS);
        int triangles = 0;
        final int[] tips = new int[3 * MOST_TRIANGLES];
        final int[] planes = new int[4 * MOST_TRIANGLES];
        /** Whether nothing that is to be wrapped lies beyond a triangle. */
        final boolean[] isSettled = new boolean[MOST_TRIANGLES];
        private int sides = 0;
        private final int[] sideFrom = new int[3 * MOST_TRIANGLES];
        private final int[] sideTo = new int[3 * MOST_TRIANGLES];
        private final boolean[] isTornSide = new boolean[MOST_KNOTS * MOST_KNOTS];

        void clear() {
            knots.clear();
            triangles = 0;
        }

        /** A fourth knot off the plane of the first three. */
        void addProp() {
            if (knots.acrossX(0, 1, 2) != 0) {
                knots.put(knots.x[0] + 1, knots.y[0], knots.z[0]);
            } else if (knots.acrossY(0, 1, 2) != 0) {
                knots.put(knots.x[0], knots.y[0] + 1, knots.z[0]);
            } else {
                knots.put(knots.x[0], knots.y[0], knots.z[0] + 1);
            }
        }

        void beginWithFour() {
            boolean isBelow = knots.boxOf(0, 1, 2, 3) < 0;
            int second = isBelow ? 1 : 2;
            int third = isBelow ? 2 : 1;
            addTriangle(0, second, third);
            addTriangle(second, 0, 3);
            addTriangle(third, second, 3);
            addTriangle(0, third, 3);
        }

        int firstOpen() {
            for (int t = 0; t < triangles; t++) {
                if (!isSettled[t]) {
                    return t;
                }
            }
            return NONE;
        }

        boolean isBeyond(int t, long px, long py, long pz) {
            return planes[4 * t] * px + planes[4 * t + 1] * py + planes[4 * t + 2] * pz > planes[4 * t + 3];
        }

        boolean touches(int t, int knot) {
            return tips[3 * t] == knot || tips[3 * t + 1] == knot || tips[3 * t + 2] == knot;
        }

        /** Tears off every triangle that the latest knot sees, and spans the hole from there. */
        void attachLatest() {
            int latest = knots.size - 1;
            sides = 0;
            for (int t = triangles - 1; t >= 0; t--) {
                if (isBeyond(t, knots.x[latest], knots.y[latest], knots.z[latest])) {
                    tearOff(t);
                }
            }
            for (int i = 0; i < sides; i++) {
                if (!isTornSide[sideTo[i] * MOST_KNOTS + sideFrom[i]]) {
                    addTriangle(sideFrom[i], sideTo[i], latest);
                }
            }
            for (int i = 0; i < sides; i++) {
                isTornSide[sideFrom[i] * MOST_KNOTS + sideTo[i]] = false;
            }
        }

        private void tearOff(int t) {
            for (int i = 0; i < 3 && sides < sideFrom.length; i++) {
                sideFrom[sides] = tips[3 * t + i];
                sideTo[sides] = tips[3 * t + (i + 1) % 3];
                isTornSide[sideFrom[sides] * MOST_KNOTS + sideTo[sides]] = true;
                sides++;
            }
            triangles--;
            System.arraycopy(tips, 3 * triangles, tips, 3 * t, 3);
            System.arraycopy(planes, 4 * triangles, planes, 4 * t, 4);
            isSettled[t] = isSettled[triangles];
        }

        private void addTriangle(int u, int v, int w) {
            if (triangles >= MOST_TRIANGLES) {
                return;
            }
            int a = (int) knots.acrossX(u, v, w);
            int b = (int) knots.acrossY(u, v, w);
            int c = (int) knots.acrossZ(u, v, w);
            tips[3 * triangles] = u;
            tips[3 * triangles + 1] = v;
            tips[3 * triangles + 2] = w;
            planes[4 * triangles] = a;
            planes[4 * triangles + 1] = b;
            planes[4 * triangles + 2] = c;
            planes[4 * triangles + 3] = a * knots.x[u] + b * knots.y[u] + c * knots.z[u];
            isSettled[triangles] = false;
            triangles++;
        }
    }

    /**
     * Finds all that lies between sums of two rows' points. Each knot it takes is the farthest along some way, so
     * it is a CORNER for good: a SOLID with too many is refused as soon as the first one too many turns up.
     */
    private static final class Hull {
        private final Shell shell = new Shell();
        private final int[] faceAt = new int[MOST_POINTS * MOST_POINTS];
        private boolean isRefused = false;
        private int corners = 0;
        private int px = 0;
        private int py = 0;
        private int pz = 0;

        /** The KIND of what is then in 'out', or REFUSED. */
        int build(Points a, Points b, Body out) {
            out.clear();
            if (a.size == 0 || b.size == 0) {
                return 0;
            }
            shell.clear();
            isRefused = false;
            corners = 0;
            int kind = spread(a, b);
            if (kind >= 3 && !isRefused) {
                wrap(a, b, kind);
            }
            if (isRefused) {
                return REFUSED;
            }
            fill(out, kind);
            out.layRings();
            out.layEdges(faceAt);
            return kind;
        }

        /** Takes the first CORNERS, none of them on the line or plane of those before: the KIND. */
        private int spread(Points a, Points b) {
            Points knots = shell.knots;
            seek(a, b, 0, 0, 0);
            take();
            if (!stepOff(a, b, 1, 0, 0) && !stepOff(a, b, 0, 1, 0) && !stepOff(a, b, 0, 0, 1)) {
                return 1;
            }
            int ex = knots.x[1] - knots.x[0];
            int ey = knots.y[1] - knots.y[0];
            int ez = knots.z[1] - knots.z[0];
            if (!stepOff(a, b, 0, ez, -ey) && !stepOff(a, b, -ez, 0, ex) && !stepOff(a, b, ey, -ex, 0)) {
                return 2;
            }
            boolean isFlat = !stepOff(a, b, knots.acrossX(0, 1, 2), knots.acrossY(0, 1, 2), knots.acrossZ(0, 1, 2));
            return isFlat ? 3 : 4;
        }

        /** Takes a CORNER that is not level with the first one along m, if there is one. */
        private boolean stepOff(Points a, Points b, long mx, long my, long mz) {
            long level = shell.knots.along(0, mx, my, mz);
            seek(a, b, mx, my, mz);
            if (mx * px + my * py + mz * pz == level) {
                seek(a, b, -mx, -my, -mz);
            }
            if (mx * px + my * py + mz * pz == level) {
                return false;
            }
            take();
            return true;
        }

        /** The sum farthest along m. */
        private void seek(Points a, Points b, long mx, long my, long mz) {
            int i = a.farthest(mx, my, mz);
            int j = b.farthest(mx, my, mz);
            px = a.x[i] + b.x[j];
            py = a.y[i] + b.y[j];
            pz = a.z[i] + b.z[j];
        }

        private void take() {
            if (!isPoint(px, py, pz) || corners >= MOST_POINTS) {
                isRefused = true;
            }
            corners++;
            shell.knots.put(px, py, pz);
        }

        private void wrap(Points a, Points b, int kind) {
            if (kind == 3) {
                shell.addProp();
            }
            shell.beginWithFour();
            for (int round = 0; round < MOST_ROUNDS && !isRefused; round++) {
                int t = shell.firstOpen();
                if (t == NONE) {
                    return;
                }
                seek(a, b, shell.planes[4 * t], shell.planes[4 * t + 1], shell.planes[4 * t + 2]);
                if (!shell.isBeyond(t, px, py, pz)) {
                    shell.isSettled[t] = true;
                    continue;
                }
                take();
                if (!isRefused) {
                    shell.attachLatest();
                }
            }
        }

        private void fill(Body out, int kind) {
            Points knots = shell.knots;
            out.kind = kind;
            for (int k = 0; k < knots.size; k++) {
                if (kind != 3 || k != Shell.PROP) {
                    out.corners.putInOrder(knots.x[k], knots.y[k], knots.z[k]);
                }
            }
            for (int t = 0; t < shell.triangles; t++) {
                int a = shell.planes[4 * t];
                int b = shell.planes[4 * t + 1];
                int c = shell.planes[4 * t + 2];
                int d = shell.planes[4 * t + 3];
                if (kind == 4) {
                    out.addPlane(a, b, c, d);
                } else if (!shell.touches(t, Shell.PROP)) {
                    out.addPlane(a, b, c, d);
                    out.addPlane(-a, -b, -c, -d);
                }
            }
        }
    }

    /**
     * How near two SOLIDS come: the point nearest to 0 0 0 of all differences of their points. It is looked for in
     * a heap of up to four differences of CORNERS, of which those are thrown out that do not hold the nearest point,
     * and one is taken in that lies farthest toward 0 0 0, until none lies nearer.
     */
    private static final class Gap {
        /** The square of the distance. */
        long top = 0;
        long bottom = 1;
        private int size = 0;
        private final int[] x = new int[4];
        private final int[] y = new int[4];
        private final int[] z = new int[4];
        private final int[] pick = new int[4];
        /** The nearest point is dx / bottom, dy / bottom, dz / bottom. */
        private long dx = 0;
        private long dy = 0;
        private long dz = 0;

        void reckon(Points a, Points b) {
            size = 0;
            addDifference(a, 0, b, 0);
            for (int round = 0; round < MOST_ROUNDS; round++) {
                if (!shrink() || top == 0) {
                    top = 0;
                    bottom = 1;
                    return;
                }
                addDifference(a, a.farthest(-dx, -dy, -dz), b, b.farthest(dx, dy, dz));
                if (along(size - 1) >= top) {
                    return;
                }
            }
        }

        private void addDifference(Points a, int i, Points b, int j) {
            if (size < x.length) {
                x[size] = a.x[i] - b.x[j];
                y[size] = a.y[i] - b.y[j];
                z[size] = a.z[i] - b.z[j];
                size++;
            }
        }

        /** Keeps those between which the nearest point lies; false if 0 0 0 lies within four. */
        private boolean shrink() {
            // without the newest one, the nearest point would be the one from before
            int newest = 1 << (size - 1);
            for (int rest = 0; rest < newest; rest++) {
                if (holdsNearest(newest | rest)) {
                    keepPicked(newest | rest);
                    return true;
                }
            }
            return false;
        }

        private boolean holdsNearest(int mask) {
            int picked = 0;
            for (int i = 0; i < size; i++) {
                if ((mask >> i & 1) == 1) {
                    pick[picked] = i;
                    picked++;
                }
            }
            boolean isBetween = picked == 1 ? stepToPoint(pick[0])
                : picked == 2 ? stepToLine(pick[0], pick[1])
                : picked == 3 && stepToPlane(pick[0], pick[1], pick[2]);
            for (int i = 0; i < size && isBetween; i++) {
                isBetween = (mask >> i & 1) == 1 || along(i) >= top;
            }
            return isBetween;
        }

        private void keepPicked(int mask) {
            int kept = 0;
            for (int i = 0; i < size; i++) {
                if ((mask >> i & 1) == 1) {
                    x[kept] = x[i];
                    y[kept] = y[i];
                    z[kept] = z[i];
                    kept++;
                }
            }
            size = kept;
        }

        private boolean stepToPoint(int i) {
            dx = x[i];
            dy = y[i];
            dz = z[i];
            top = along(i);
            bottom = 1;
            return true;
        }

        /** False if the nearest point of the line is not between the two. */
        private boolean stepToLine(int i, int j) {
            long ex = x[j] - x[i];
            long ey = y[j] - y[i];
            long ez = z[j] - z[i];
            long before = -(ex * x[i] + ey * y[i] + ez * z[i]);
            long after = ex * x[j] + ey * y[j] + ez * z[j];
            if (before <= 0 || after <= 0) {
                return false;
            }
            dx = after * x[i] + before * x[j];
            dy = after * y[i] + before * y[j];
            dz = after * z[i] + before * z[j];
            top = along(i);
            bottom = before + after;
            return true;
        }

        /** False if the nearest point of the plane is not between the three. */
        private boolean stepToPlane(int i, int j, int k) {
            dx = crossX(i, j) + crossX(j, k) + crossX(k, i);
            dy = crossY(i, j) + crossY(j, k) + crossY(k, i);
            dz = crossZ(i, j) + crossZ(j, k) + crossZ(k, i);
            if (share(i, j) <= 0 || share(j, k) <= 0 || share(k, i) <= 0) {
                return false;
            }
            bottom = dx * dx + dy * dy + dz * dz;
            long height = along(i);
            dx *= height;
            dy *= height;
            dz *= height;
            top = along(i);
            return true;
        }

        private long along(int i) {
            return dx * x[i] + dy * y[i] + dz * z[i];
        }

        private long share(int i, int j) {
            return dx * crossX(i, j) + dy * crossY(i, j) + dz * crossZ(i, j);
        }

        private long crossX(int i, int j) {
            return (long) y[i] * z[j] - (long) z[i] * y[j];
        }

        private long crossY(int i, int j) {
            return (long) z[i] * x[j] - (long) x[i] * z[j];
        }

        private long crossZ(int i, int j) {
            return (long) x[i] * y[j] - (long) y[i] * x[j];
        }
    }
}
