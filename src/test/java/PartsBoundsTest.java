/** EDGES and FACES (term I, promises 8 and 9) at their bounds: each sentence of the document that names one has a method here. */
public final class PartsBoundsTest {
    private static final long NO_FACE = -2000000000L;
    private static final int LEAST = Integer.MIN_VALUE;
    private static final int MOST = Integer.MAX_VALUE;
    private static final int[] FLAT_THREE = {0, 0, 0, 1, 0, 0, 0, 1, 0};

    private static void due(String what, long got, long want) {
        Check.due(what, got, want);
    }

    private static void due(String what, boolean got, boolean want) {
        Check.due(what, got, want);
    }

    private static void dueEdge(HullFoundry f, String what, int s, int k, int... numbers) {
        for (int i = 0; i < 4; i++) {
            due(what + ": EDGE " + k + " what " + i, f.edge(s, k, i), numbers[i]);
        }
    }

    // I: "told by whole a, b, c, d without a common divisor"; "in order by a, then b, c, d"
    private static void facesOfTheLargestBox() {
        HullFoundry f = Check.foundryWith(Rows.box(-100, -100, -100, 200));
        Check.dueFace(f, "I largest box", 0, 0, -1, 0, 0, 100, 4, 80000, 0, 1, 3, 2);
        Check.dueFace(f, "I largest box", 0, 1, 0, -1, 0, 100, 4, 80000, 0, 4, 5, 1);
        Check.dueFace(f, "I largest box", 0, 2, 0, 0, -1, 100, 4, 80000, 0, 2, 6, 4);
        Check.dueFace(f, "I largest box", 0, 3, 0, 0, 1, 100, 4, 80000, 1, 5, 7, 3);
        Check.dueFace(f, "I largest box", 0, 4, 0, 1, 0, 100, 4, 80000, 2, 3, 7, 6);
        Check.dueFace(f, "I largest box", 0, 5, 1, 0, 0, 100, 4, 80000, 4, 6, 7, 5);
    }

    // I: "a, b, c, d without a common divisor", where these are as large as can be
    private static void facesWithLargeNumbers() {
        HullFoundry f = Check.foundryWith(Rows.THIN_PIECE);
        Check.dueFace(f, "I large numbers", 0, 0, -39600, 39799, 39601, -3940200, 3, 1, 1, 2, 3);
        Check.dueFace(f, "I large numbers", 0, 1, -199, 200, 199, -19800, 3, 1, 0, 1, 3);
        Check.dueFace(f, "I large numbers", 0, 2, -1, 1, 1, -99, 3, 1, 0, 2, 1);
        Check.dueFace(f, "I large numbers", 0, 3, 39800, -40000, -39801, 3960100, 3, 1, 0, 3, 2);
    }

    // I: "with a x + b y + c z up to d for all of it and just d on the FACE"; most FACES
    private static void facesBoundTheSolid() {
        HullFoundry f = Check.foundryWith(Rows.BALL);
        int[] numbers = new int[72];
        for (int i = 0; i < 72; i++) {
            numbers[i] = f.corner(0, i / 3, i % 3);
        }
        for (int k = 0; k < 44; k++) {
            long a = f.face(0, k, 0);
            long b = f.face(0, k, 1);
            long c = f.face(0, k, 2);
            long d = f.face(0, k, 3);
            int on = 0;
            for (int i = 0; i < 24; i++) {
                long height = a * numbers[3 * i] + b * numbers[3 * i + 1] + c * numbers[3 * i + 2] - d;
                due("I up to d: FACE " + k + " CORNER " + i, height <= 0, true);
                on |= height == 0 ? 1 << i : 0;
            }
            int ring = 0;
            for (int i = 0; i < 3; i++) {
                ring |= 1 << f.face(0, k, 6 + i);
            }
            due("I just d on its RING: FACE " + k, ring, on);
        }
    }

    // I: "in order by a, then b, c, d", the first and the last of as many as can be
    private static void firstAndLastFace() {
        HullFoundry f = Check.foundryWith(Rows.BALL);
        Check.dueFace(f, "9 the first", 0, 0, -4267, 2236, -1165, 442297, 3, f.face(0, 0, 5), 0, 4, 1);
        Check.dueFace(f, "9 the last", 0, 43, 4673, 806, -2162, 462299, 3, f.face(0, 43, 5), 19, 21, 23);
        due("9 beyond the last", f.face(0, 44, 0), NO_FACE);
        due("9 below the first", f.face(0, -1, 0), NO_FACE);
        for (int k = 1; k < 44; k++) {
            long rise = 0;
            for (int what = 0; what < 4 && rise == 0; what++) {
                rise = f.face(0, k, what) - f.face(0, k - 1, what);
            }
            due("I in order: FACE " + k, rise > 0, true);
        }
    }

    // I: "Its RING: the CORNERS on it, the first of them first, then as seen from outside against the clock"
    private static void longRings() {
        HullFoundry f = Check.foundryWith(Rows.prism());
        Check.dueFace(f, "I 12 from below", 0, 6, 0, 0, -1, 0, 12, f.volume(0) / 21, 0, 22, 20, 18, 16, 14, 12, 10, 8, 6, 4, 2);
        Check.dueFace(f, "I 12 from above", 0, 7, 0, 0, 1, 7, 12, f.volume(0) / 21, 1, 3, 5, 7, 9, 11, 13, 15, 17, 19, 21, 23);
        Check.make(f, 1, 1, Rows.ring());
        due("I 24: the first", f.face(1, 1, 6), 0);
        for (int i = 0; i < 24; i++) {
            int next = i == 23 ? 0 : i + 1;
            due("I 24: CORNER " + i, f.face(1, 1, 6 + i) >= 0, true);
            due("I 24: the other way round " + i, f.face(1, 0, 6 + next), f.face(1, 1, 6 + (24 - next) % 24));
        }
        due("9 RING's last of 24", f.face(1, 0, 29) >= 0, true);
        due("9 beyond the RING's last of 24", f.face(1, 0, 30), NO_FACE);
        due("9 how many", f.face(1, 0, 4), 24);
    }

    // I: "KIND 3 has two FACES, one for each side (each with that plane and the other signs)"
    private static void facesOfKind3() {
        HullFoundry f = Check.foundryWith(FLAT_THREE);
        Check.dueFace(f, "I through 0 0 0", 0, 0, 0, 0, -1, 0, 3, 1, 0, 1, 2);
        Check.dueFace(f, "I through 0 0 0", 0, 1, 0, 0, 1, 0, 3, 1, 0, 2, 1);
        due("I no third", f.face(0, 2, 0), NO_FACE);
        Check.make(f, 0, 0, -100, -99, -100, 100, 100, -100, 99, -100, 100);
        Check.dueFace(f, "I as large as can be", 0, 0, -39800, 40000, 39801, -3960100, 3, 1, 0, 1, 2);
        Check.dueFace(f, "I as large as can be", 0, 1, 39800, -40000, -39801, 3960100, 3, 1, 0, 2, 1);
        Check.make(f, 0, 0, 100, -100, -100, 100, -100, 100, 100, 100, -100, 100, 100, 100);
        Check.dueFace(f, "I on the rim", 0, 0, -1, 0, 0, -100, 4, 80000, 0, 1, 3, 2);
        Check.dueFace(f, "I on the rim", 0, 1, 1, 0, 0, 100, 4, 80000, 0, 2, 3, 1);
    }

    // I: "others have none"; promise 9: "-2000000000 when there is none such"
    private static void facesThatAreNone() {
        HullFoundry f = Check.foundryWith(Rows.CORNER_PIECE);
        Check.make(f, 1, 1, 5, 5, 5);
        Check.make(f, 2, 2, 0, 0, 0, 9, 9, 9);
        for (int s = 1; s < 4; s++) {
            for (int what = 0; what < 7; what++) {
                due("9 of SOLID " + s, f.face(s, 0, what), NO_FACE);
            }
        }
        for (int s : Check.NO_SLOTS) {
            due("9 no such SOLID " + s, f.face(s, 0, 0), NO_FACE);
        }
        for (int k : new int[] {-1, 4, 1 << 30, LEAST, MOST}) {
            due("9 no such FACE " + k, f.face(0, k, 0), NO_FACE);
            due("9 no such FACE's CORNER " + k, f.face(0, k, 6), NO_FACE);
        }
        for (int what : new int[] {-1, 9, LEAST, LEAST + 6, MOST}) {
            due("9 what " + what, f.face(0, 0, what), NO_FACE);
        }
        Check.make(f, 0, 1);
        due("9 not what was there before", f.face(0, 0, 0), NO_FACE);
    }

    // I: "(of KIND 2: the one line)"; promise 8: "(of KIND 2: NONE)"
    private static void edgeOfKind2() {
        HullFoundry f = Check.foundryWith(Rows.line());
        dueEdge(f, "8 KIND 2", 0, 0, 0, 1, -1, -1);
        due("8 no second", f.edge(0, 1, 0), -1);
        due("8 none before", f.edge(0, -1, 0), -1);
    }

    // I: "lines between two CORNERS in which FACES' RINGS go on": also from a RING's last CORNER to its first
    private static void edgesOfKind3() {
        HullFoundry f = Check.foundryWith(FLAT_THREE);
        dueEdge(f, "8 three", 0, 0, 0, 1, 0, 1);
        dueEdge(f, "8 three", 0, 1, 0, 2, 0, 1);
        dueEdge(f, "8 three", 0, 2, 1, 2, 0, 1);
        due("8 no fourth", f.edge(0, 3, 0), -1);
    }

    // the same, of the longest RING
    private static void edgesOfLongRing() {
        HullFoundry f = Check.foundryWith(Rows.ring());
        long[] ring = new long[24];
        for (int i = 0; i < 24; i++) {
            ring[i] = f.face(0, 1, 6 + i);
        }
        int found = 0;
        for (int k = 0; k < 24; k++) {
            int from = f.edge(0, k, 0);
            int to = f.edge(0, k, 1);
            for (int i = 0; i < 24; i++) {
                long next = ring[(i + 1) % 24];
                found += Math.min(ring[i], next) == from && Math.max(ring[i], next) == to ? 1 : 0;
            }
            due("8 24: FACES", f.edge(0, k, 2) == 0 && f.edge(0, k, 3) == 1, true);
        }
        due("8 24: each goes on in the RING", found, 24);
        due("8 24: no more", f.edge(0, 24, 0), -1);
    }

    // I: "in order by the lesser CORNER, then the other one"; promise 8: "the lesser number first"; most EDGES
    private static void edgesInOrder() {
        HullFoundry f = Check.foundryWith(Rows.BALL);
        int before = -1;
        for (int k = 0; k < 66; k++) {
            int from = f.edge(0, k, 0);
            int to = f.edge(0, k, 1);
            due("8 lesser CORNER first: EDGE " + k, from < to && to < 24, true);
            due("8 in order: EDGE " + k, 24 * from + to > before, true);
            due("8 lesser FACE first: EDGE " + k, f.edge(0, k, 2) < f.edge(0, k, 3) && f.edge(0, k, 3) < 44, true);
            before = 24 * from + to;
        }
        due("8 beyond the last", f.edge(0, 66, 0), -1);
    }

    // promise 8: "2, 3 the FACES (the lesser number first) in whose RINGS it is"
    private static void edgesFaces() {
        HullFoundry f = Check.foundryWith(Rows.box(-100, -100, -100, 200));
        int[][] edges = {{0, 1, 0, 1}, {0, 2, 0, 2}, {0, 4, 1, 2}, {1, 3, 0, 3}, {1, 5, 1, 3}, {2, 3, 0, 4}, {2, 6, 2, 4},
            {3, 7, 3, 4}, {4, 5, 1, 5}, {4, 6, 2, 5}, {5, 7, 3, 5}, {6, 7, 4, 5}};
        for (int k = 0; k < 12; k++) {
            dueEdge(f, "8 largest box", 0, k, edges[k]);
        }
        due("8 no thirteenth", f.edge(0, 12, 0), -1);
    }

    // promise 8: "NONE when there is none such"
    private static void edgesThatAreNone() {
        HullFoundry f = Check.foundryWith(Rows.CORNER_PIECE);
        f.grow(1, 5, 5, 5);
        for (int what = 0; what < 4; what++) {
            due("8 of KIND 1", f.edge(1, 0, what), -1);
            due("8 of KIND 0", f.edge(2, 0, what), -1);
        }
        for (int s : Check.NO_SLOTS) {
            due("8 no such SOLID " + s, f.edge(s, 0, 0), -1);
        }
        for (int k : new int[] {-1, 6, 1 << 30, LEAST, MOST}) {
            due("8 no such EDGE " + k, f.edge(0, k, 1), -1);
        }
        for (int what : new int[] {-1, 4, LEAST, MOST}) {
            due("8 what " + what, f.edge(0, 0, what), -1);
        }
        Check.make(f, 0, 1);
        due("8 not what was there before", f.edge(0, 0, 0), -1);
    }

    public static void main(String[] args) {
        facesOfTheLargestBox();
        facesWithLargeNumbers();
        facesBoundTheSolid();
        firstAndLastFace();
        longRings();
        facesOfKind3();
        facesThatAreNone();
        edgeOfKind2();
        edgesOfKind3();
        edgesOfLongRing();
        edgesInOrder();
        edgesFaces();
        edgesThatAreNone();
        Check.end();
    }
}
