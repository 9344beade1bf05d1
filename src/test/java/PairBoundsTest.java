/** Promises 16 to 19 at their bounds: each sentence of the document that names one has a method here. */
public final class PairBoundsTest {
    private static final int LEAST = Integer.MIN_VALUE;
    private static final int MOST = Integer.MAX_VALUE;
    private static final int[] WIDE_THREE = {-100, -99, -100, 100, 100, -100, 99, -100, 100};

    private static void due(String what, long got, long want) {
        Check.due(what, got, want);
    }

    private static HullFoundry foundryWith(int[] first, int... second) {
        HullFoundry f = new HullFoundry();
        Check.make(f, 0, 0, first);
        Check.make(f, 1, 1, second);
        return f;
    }

    private static int[] row(int... numbers) {
        return numbers;
    }

    // promise 16: "its KIND", of each two KINDS
    private static void sumOfKinds() {
        HullFoundry f = new HullFoundry();
        int[][] rows = {{}, {1, 2, 3}, {0, 0, 0, 1, 1, 0}, {0, 0, 0, 1, 0, 0, 0, 1, 0}, Rows.CORNER_PIECE,
            {0, 0, 0, 0, 0, 2}, {0, 0, 0, 1, 0, 0, 0, 0, 1}};
        int[][] kinds = {{0, 0, 0, 0, 0, 0, 0}, {0, 1, 2, 3, 4, 2, 3}, {0, 2, 2, 3, 4, 3, 4}, {0, 3, 3, 3, 4, 4, 4},
            {0, 4, 4, 4, 4, 4, 4}, {0, 2, 3, 4, 4, 2, 3}, {0, 3, 4, 4, 4, 3, 3}};
        for (int a = 0; a < 7; a++) {
            Check.make(f, a, a, rows[a]);
        }
        for (int a = 0; a < 7; a++) {
            for (int b = 0; b < 7; b++) {
                due("16 rows " + a + " and " + b, f.sum(a, b, 7), kinds[a][b]);
                due("16 rows " + a + " and " + b + ", count", f.count(7, 0), kinds[a][b]);
            }
        }
    }

    // promise 16: "(0 if one of them is 0)"
    private static void sumWithNothing() {
        HullFoundry f = foundryWith(Rows.box(-100, -100, -100, 200), Rows.prism());
        due("16 the second is nothing", f.sum(0, 7, 1), 0);
        due("16 it is nothing now", f.count(1, 1), 0);
        due("16 that can be taken back", f.undo(), 2);
        due("16 as it was", f.count(1, 1), 24);
        due("16 the first is nothing", f.sum(7, 1, 0), 0);
        due("16 it is nothing now", f.count(0, 1), 0);
        due("16 both are nothing", f.sum(7, 6, 1), 0);
        due("16 onto nothing", f.sum(7, 7, 7), 0);
        due("16 all of these are changes", f.undo(), 4);
    }

    // promise 16: "-2 .. a CORNER that is no POINT"
    private static void sumBeyondPoints() {
        for (int axis = 0; axis < 3; axis++) {
            for (int sign : new int[] {-1, 1}) {
                int[] far = new int[3];
                int[] step = new int[3];
                far[axis] = 99 * sign;
                step[axis] = sign;
                HullFoundry f = foundryWith(far, step);
                due("16 to the rim", f.sum(0, 1, 2), 1);
                due("16 at the rim", f.corner(2, 0, axis), 100 * sign);
                due("16 beyond the rim", f.sum(2, 1, 3), -2);
                due("16 beyond the rim, the other way", f.sum(1, 2, 3), -2);
                due("16 far beyond the rim", f.sum(2, 2, 2), -2);
                due("16 as it was", f.corner(2, 0, axis), 100 * sign);
                due("16 nothing still", f.count(3, 0), 0);
                due("16 three changes", f.undo(), 2);
            }
        }
    }

    // the same, where but one of several CORNERS is no POINT
    private static void sumBeyondPointsByOneCorner() {
        HullFoundry f = foundryWith(Rows.box(0, 0, 0, 50), Rows.box(0, 0, 0, 50));
        due("16 boxes to the rim", f.sum(0, 1, 2), 4);
        Check.dueCorners(f, "16 boxes to the rim", 2, Rows.box(0, 0, 0, 100));
        f.grow(1, 25, 25, 51);
        due("16 one CORNER of KIND 4 beyond", f.sum(0, 1, 2), -2);
        Check.make(f, 1, 1, 0, 0, 0, 50, 50, 51);
        due("16 one CORNER of KIND 2 beyond", f.sum(0, 1, 2), -2);
        Check.make(f, 0, 0, 0, 0, 0, 50, 50, 50);
        due("16 one end of a line beyond", f.sum(0, 1, 2), -2);
        Check.make(f, 0, 0, 0, 0, 50, 50, 0, 50, 0, 50, 50);
        due("16 some of a plane beyond", f.sum(0, 1, 2), -2);
        due("16 as it was", f.corner(2, 7, 2), 100);
    }

    // promise 16: "-2 it would have more than 24 CORNERS"
    private static void sumBeyond24() {
        HullFoundry f = foundryWith(Rows.prism(), 0, 0, 0, 0, 0, 9);
        due("16 24, longer", f.sum(0, 1, 2), 4);
        due("16 24, longer", f.count(2, 1), 24);
        due("16 24 and one POINT", f.grow(3, 1, 1, 1) + f.sum(0, 3, 2), 1 + 4);
        due("16 24 and itself", f.sum(0, 0, 2), 4);
        due("16 24 and itself", f.count(2, 1), 24);
        Check.make(f, 1, 1, 0, 0, 0, 1, 0, 0);
        due("16 26", f.sum(0, 1, 2), -2);
        due("16 26, the other way", f.sum(1, 0, 2), -2);
        due("16 as it was", f.volume(2), 8 * 9240);
        Check.make(f, 4, 4, Rows.ring());
        Check.make(f, 5, 5, 0, 0, 0, 0, 0, 1);
        due("16 a plane of 24 and a line across", f.sum(4, 5, 6), -2);
        Check.make(f, 5, 5, 0, 0, 0, 5, 1, 0);
        due("16 a plane of 24 and a line along", f.sum(4, 5, 6), -2);
        due("16 nothing still", f.count(6, 0), 0);
    }

    // promise 16: "SOLID to is the SUM of a and b", where it is one of these itself
    private static void sumOntoItself() {
        HullFoundry f = foundryWith(Rows.box(0, 0, 0, 1), 0, 0, 0, 5, 0, 0);
        due("16 onto the first", f.sum(0, 1, 0), 4);
        due("16 onto the first", f.volume(0), 36);
        due("16 the second stays", f.count(1, 1), 2);
        due("16 onto the second", f.sum(0, 1, 1), 4);
        due("16 onto the second", f.volume(1), 66);
        due("16 the first stays", f.volume(0), 36);
        due("16 onto both", f.sum(0, 0, 0), 4);
        due("16 onto both", f.volume(0), 288);
        due("16 from 7 to 7", f.copy(0, 7) ? f.sum(7, 7, 7) : -1, 4);
        due("16 refused onto both", f.move(7, 76, 0, 0) ? f.sum(7, 7, 7) : 0, -2);
    }

    // promise 16: "NONE: no such SOLIDS"
    private static void sumOfNoSolids() {
        HullFoundry f = foundryWith(Rows.box(0, 0, 0, 1), 0, 0, 0);
        for (int s : Check.NO_SLOTS) {
            due("16 first " + s, f.sum(s, 0, 2), -1);
            due("16 second " + s, f.sum(0, s, 2), -1);
            due("16 to " + s, f.sum(0, 1, s), -1);
            due("16 with nothing, to " + s, f.sum(7, 7, s), -1);
        }
        due("16 no change", f.undo(), 1);
    }

    private static void dueNear(HullFoundry f, String what, long above, long below) {
        for (int turn = 0; turn < 2; turn++) {
            due(what + ": above", f.near(turn, 1 - turn, 0), above);
            due(what + ": below", f.near(turn, 1 - turn, 1), below);
            due(what + ": apart", f.apart(turn, 1 - turn), above > 0 ? 1 : 0);
        }
    }

    // promise 17: "(one of KIND 0 is from each)"; promise 18: "NONE: .. or one is of KIND 0"
    private static void nothingIsApartFromAll() {
        HullFoundry f = foundryWith(Rows.box(-100, -100, -100, 200));
        due("17 nothing and a SOLID", f.apart(1, 0), 1);
        due("17 a SOLID and nothing", f.apart(0, 1), 1);
        due("17 nothing and nothing", f.apart(1, 2), 1);
        due("17 nothing and itself", f.apart(1, 1), 1);
        for (int what = 0; what < 2; what++) {
            due("18 nothing and a SOLID", f.near(1, 0, what), -1);
            due("18 a SOLID and nothing", f.near(0, 1, what), -1);
            due("18 nothing and nothing", f.near(1, 2, what), -1);
            due("18 nothing and itself", f.near(1, 1, what), -1);
        }
    }

    // II: "They are APART if they share no point": one shared point is enough
    private static void sharingJustOnePoint() {
        dueNear(foundryWith(Rows.box(0, 0, 0, 2), Rows.box(2, 2, 2, 2)), "II CORNER on CORNER", 0, 1);
        dueNear(foundryWith(Rows.box(0, 0, 0, 2), 2, 2, 1, 9, 9, 9), "II CORNER on EDGE", 0, 1);
        dueNear(foundryWith(Rows.box(0, 0, 0, 2), 1, 1, 2, 1, 1, 9), "II CORNER on FACE", 0, 1);
        dueNear(foundryWith(Rows.box(0, 0, 0, 2), 3, 1, 1, 1, 3, 1), "II EDGE on EDGE", 0, 1);
        dueNear(foundryWith(row(0, 0, 0, 3, 3, 3), 1, 0, 0, 0, 1, 0, 0, 0, 1), "II EDGE through FACE at a fraction", 0, 1);
        dueNear(foundryWith(row(0, 0, 0, 2, 1, 0), 0, 1, 0, 2, 0, 0), "II lines that cross at a fraction", 0, 1);
        dueNear(foundryWith(row(5, 5, 5), 5, 5, 5), "II POINT on POINT", 0, 1);
    }

    // II: "share no point", where they share many
    private static void sharingMany() {
        HullFoundry f = foundryWith(Rows.box(0, 0, 0, 9), Rows.box(4, 4, 4, 1));
        dueNear(f, "II one within the other", 0, 1);
        due("17 itself", f.apart(0, 0), 0);
        due("18 itself, above", f.near(0, 0, 0), 0);
        due("18 itself, below", f.near(0, 0, 1), 1);
        dueNear(foundryWith(Rows.box(0, 0, 0, 2), Rows.box(2, 0, 0, 2)), "II FACE on FACE", 0, 1);
        dueNear(foundryWith(Rows.BALL, Rows.prism()), "II 24 and 24", 0, 1);
        dueNear(foundryWith(row(-9, -9, 0, 9, -9, 0, 0, 9, 0), 0, 0, -9, 0, 0, 9, 9, 0, 9), "II through each other", 0, 1);
    }

    // II: "the least square of the distance", as small as can be and as large
    private static void nearLeastAndMost() {
        dueNear(foundryWith(WIDE_THREE, -99, -99, -99), "II least", 1, 4768159601L);
        dueNear(foundryWith(row(-100, -100, -100), 100, 100, 100), "II most", 120000, 1);
        dueNear(foundryWith(WIDE_THREE, -100, 100, 100), "II POINT and FACE", 253452768040000L, 4768159601L);
        dueNear(foundryWith(row(-100, -100, -99, 100, 99, -100), -100, 99, 100, 98, -100, 100), "II EDGE and EDGE",
            249658960360000L, 6273035609L);
        dueNear(foundryWith(row(-100, -100, -99, 100, 99, -100), -100, 100, 100), "II POINT and EDGE", 4768159601L, 79602);
    }

    // the same, of as many CORNERS, EDGES and FACES as can be
    private static void nearOfMostCorners() {
        dueNear(foundryWith(Rows.BALL, Rows.box(90, 70, 60, 5)), "II 24 and a box", 5854251, 4502);
        dueNear(foundryWith(Rows.BALL, Rows.box(-99, -99, -99, 9)), "II 24 and a box", 11296834, 3093);
        dueNear(foundryWith(Rows.BALL, Rows.box(80, -100, 60, 7)), "II 24 and a box", 8496621, 4630);
        dueNear(foundryWith(Rows.BALL, 60, 60, 60, 62, 71, 64, 63, 61, 73, 69, 63, 61, 90, 53, 62), "II 24 and five",
            2698698601L, 26112222);
        dueNear(foundryWith(Rows.BALL, 70, 66, 61, 79, 69, 62, 72, 77, 65, 73, 67, 74), "II 24 and four",
            11543998249L, 26112222);
    }

    // II: "(in lowest terms)"
    private static void nearInLowestTerms() {
        dueNear(foundryWith(row(0, 0, 0), 2, 0, 0, 0, 2, 0), "II 8 / 4 is 2", 2, 1);
        dueNear(foundryWith(row(0, 0, 0), 3, 0, 0, 0, 3, 0), "II 9 / 2", 9, 2);
        dueNear(foundryWith(row(0, 0, 0), 3, 0, 0, 0, 3, 0, 0, 0, 3), "II 9 / 3 is 3", 3, 1);
        dueNear(foundryWith(row(0, 0, 0), 100, 0, 0, 0, 100, 0, 0, 0, 100), "II 10000 / 3", 10000, 3);
        dueNear(foundryWith(row(0, 0, 0), 1, 0, 0, 1, 9, 9), "II the end of a line", 1, 1);
        dueNear(foundryWith(Rows.box(0, 0, 0, 1), Rows.box(-3, -3, -3, 1)), "II CORNER to CORNER", 12, 1);
        dueNear(foundryWith(Rows.box(0, 0, 0, 1), Rows.box(0, 0, 3, 1)), "II FACE along FACE", 4, 1);
    }

    // promise 17, 18: "NONE: no such SOLIDS"
    private static void nearOfNoSolids() {
        HullFoundry f = foundryWith(Rows.box(0, 0, 0, 1), 5, 5, 5);
        for (int s : Check.NO_SLOTS) {
            due("17 first " + s, f.apart(s, 0), -1);
            due("17 second " + s, f.apart(0, s), -1);
            due("17 with nothing " + s, f.apart(7, s), -1);
            due("18 first " + s, f.near(s, 0, 0), -1);
            due("18 second " + s, f.near(0, s, 1), -1);
            due("18 with nothing " + s, f.near(s, 7, 1), -1);
        }
        for (int what : new int[] {-1, 2, LEAST, MOST}) {
            due("18 what " + what, f.near(0, 1, what), -1);
        }
        f.copy(0, 7);
        due("17 SOLID 7", f.apart(7, 1), 1);
        due("18 SOLID 7", f.near(1, 7, 0), 48);
    }

    private static void dueSame(HullFoundry f, String what, int a, int b, int want) {
        due(what, f.same(a, b), want);
        due(what + ", the other way", f.same(b, a), want);
    }

    // promise 19: "Whether two SOLIDS are the same: 1, 0"
    private static void sameOrNearlySo() {
        HullFoundry f = foundryWith(Rows.BALL);
        dueSame(f, "19 nothing and nothing", 1, 7, 1);
        due("19 nothing and itself", f.same(1, 1), 1);
        dueSame(f, "19 nothing and 24", 1, 0, 0);
        f.copy(0, 7);
        dueSame(f, "19 24 and 24", 0, 7, 1);
        f.move(7, 0, 0, 1);
        dueSame(f, "19 moved by one", 0, 7, 0);
        Check.make(f, 2, 2, 0, 0, 0, 4, 0, 0, 0, 4, 0, 0, 0, 4);
        Check.make(f, 3, 3, 0, 0, 4, 4, 0, 0, 1, 1, 1, 0, 4, 0, 0, 0, 0, 2, 0, 0, 4, 0, 0);
        dueSame(f, "19 told otherwise", 2, 3, 1);
        Check.make(f, 3, 3, 0, 0, 0, 4, 0, 1, 0, 4, 0, 0, 0, 4);
        dueSame(f, "19 the last number of the last CORNER", 2, 3, 0);
        Check.make(f, 3, 3, 0, 0, 0, 4, 1, 0, 0, 4, 0, 0, 0, 4);
        dueSame(f, "19 the middle number of the last CORNER", 2, 3, 0);
        Check.make(f, 3, 3, 0, 0, 0, 0, 4, 0, 0, 0, 4);
        dueSame(f, "19 one CORNER less", 2, 3, 0);
    }

    // promise 19: "NONE"
    private static void sameOfNoSolids() {
        HullFoundry f = new HullFoundry();
        for (int s : Check.NO_SLOTS) {
            dueSame(f, "19 SOLID " + s, s, 0, -1);
            due("19 twice " + s, f.same(s, s), -1);
        }
    }

    public static void main(String[] args) {
        sumOfKinds();
        sumWithNothing();
        sumBeyondPoints();
        sumBeyondPointsByOneCorner();
        sumBeyond24();
        sumOntoItself();
        sumOfNoSolids();
        nothingIsApartFromAll();
        sharingJustOnePoint();
        sharingMany();
        nearLeastAndMost();
        nearOfMostCorners();
        nearInLowestTerms();
        nearOfNoSolids();
        sameOrNearlySo();
        sameOfNoSolids();
        Check.end();
    }
}
