/** The terms and promises 1 to 7 at their bounds: each sentence of the document that names one has a method here. */
public final class BuildBoundsTest {
    private static final long NO_FACE = -2000000000L;
    private static final int[] SLOTS = {0, 7};

    private static void due(String what, long got, long want) {
        Check.due(what, got, want);
    }

    private static void due(String what, boolean got, boolean want) {
        Check.due(what, got, want);
    }

    // I: "POINTS are whole x, y, z, -100 .. 100."
    private static void pointsEndAt100() {
        for (int axis = 0; axis < 3; axis++) {
            for (int number : new int[] {Integer.MIN_VALUE, -101, -100, 100, 101, Integer.MAX_VALUE}) {
                boolean isPoint = Math.abs((long) number) <= 100;
                int[] p = new int[3];
                p[axis] = number;
                HullFoundry f = new HullFoundry();
                f.tray(0, 1);
                due("I point " + axis + " " + number, f.point(0, 0, p[0], p[1], p[2]), isPoint);
                due("I grow " + axis + " " + number, f.grow(0, p[0], p[1], p[2]), isPoint ? 1 : -1);
                f.solid(1, 0);
                due("I put into the TRAY " + axis + " " + number, f.corner(1, 0, axis), isPoint ? number : 0);
            }
        }
    }

    // I: "TRAYS 0 .. 7 are rows of up to 24 POINTS; one may be missing (as all are at first)."
    private static void traysAreMissingAtFirst() {
        HullFoundry f = new HullFoundry();
        for (int t = 0; t < 8; t++) {
            due("I missing at first, point", f.point(t, 0, 0, 0, 0), false);
            due("I missing at first, solid", f.solid(0, t), -1);
        }
        due("I no change came of it", f.undo(), -1);
    }

    // I: "SOLIDS 0 .. 7 (of KIND 0 at first)"; promise 1: "No TRAYS; SOLIDS of KIND 0."
    private static void solidsAreOfKind0AtFirst() {
        HullFoundry f = new HullFoundry();
        for (int s = 0; s < 8; s++) {
            for (int what = 0; what < 4; what++) {
                due("1 count " + what, f.count(s, what), 0);
            }
            due("1 corner", f.corner(s, 0, 0), -1000);
            due("1 edge", f.edge(s, 0, 0), -1);
            due("1 face", f.face(s, 0, 0), NO_FACE);
            due("1 in", f.in(s, 0, 0, 0, 1), 0);
            due("1 side", f.side(s, 1, 0, 0, 0), 0);
            due("1 volume", f.volume(s), 0);
            due("1 middle", f.middle(s, 0, 1), 0);
            due("1 far", f.far(s, 2), -1);
            due("1 width", f.width(s, 1), -1);
            due("1 apart", f.apart(s, 7 - s), 1);
            due("1 near", f.near(s, 7 - s, 1), -1);
            due("1 same", f.same(s, 7 - s), 1);
        }
        due("1 undo", f.undo(), -1);
    }

    // promise 1: a new object has nothing of another one
    private static void objectsShareNothing() {
        HullFoundry f = new HullFoundry();
        Check.make(f, 0, 0, Rows.box(0, 0, 0, 1));
        HullFoundry g = new HullFoundry();
        due("1 another one's SOLID", g.count(0, 0), 0);
        due("1 another one's TRAY", g.solid(0, 0), -1);
        due("1 another one's changes", g.undo(), -1);
        g.grow(0, 5, 5, 5);
        due("1 untouched by another one", f.volume(0), 6);
    }

    // I: "Its CORNERS: POINTS of these without which it would be less"
    private static void cornersAreNeeded() {
        HullFoundry f = new HullFoundry();
        due("I equal POINTS", Check.make(f, 0, 0, 4, 4, 4, 4, 4, 4), 1);
        Check.dueCorners(f, "I equal POINTS", 0, 4, 4, 4);
        due("I between, in a line", Check.make(f, 0, 0, 0, 0, 0, 1, 1, 1, 2, 2, 2), 2);
        Check.dueCorners(f, "I between, in a line", 0, 0, 0, 0, 2, 2, 2);
        due("I on a side and within, in a plane",
            Check.make(f, 0, 0, 0, 0, 0, 2, 0, 0, 1, 1, 0, 4, 0, 0, 2, 2, 0, 0, 4, 0, 0, 1, 0), 3);
        Check.dueCorners(f, "I on a side and within, in a plane", 0, 0, 0, 0, 0, 4, 0, 4, 0, 0);
        due("I on an EDGE, on a FACE, within",
            Check.make(f, 0, 0, 0, 0, 0, 0, 0, 2, 1, 1, 0, 1, 1, 1, 4, 0, 0, 0, 4, 0, 0, 0, 4, 0, 2, 2, 1, 1, 2), 4);
        Check.dueCorners(f, "I on an EDGE, on a FACE, within", 0, 0, 0, 0, 0, 0, 4, 0, 4, 0, 4, 0, 0);
    }

    // I: "in order by x, then y, then z"
    private static void cornersAreInOrder() {
        HullFoundry f = new HullFoundry();
        Check.make(f, 0, 0, Rows.box(-100, -100, -100, 200));
        Check.dueCorners(f, "I order", 0, -100, -100, -100, -100, -100, 100, -100, 100, -100, -100, 100, 100,
            100, -100, -100, 100, -100, 100, 100, 100, -100, 100, 100, 100);
        Check.make(f, 1, 1, 0, 9, -9, 0, -9, 9, 1, 0, 0, -1, 0, 0);
        Check.dueCorners(f, "I order, y before z", 1, -1, 0, 0, 0, -9, 9, 0, 9, -9, 1, 0, 0);
    }

    // I: "KINDS: 0 nothing, 1 one POINT, 2 in a line, 3 in a plane, 4 others."
    private static void kindsAtTheirBounds() {
        HullFoundry f = new HullFoundry();
        due("I just off one POINT", Check.make(f, 0, 0, 100, 100, 99, 100, 100, 100), 2);
        due("I in a line all across", Check.make(f, 0, 0, -100, -100, -100, 100, 100, 100, 1, 1, 1), 2);
        due("I just off a line", Check.make(f, 0, 0, -100, -100, -100, 100, 100, 99, 0, 0, 0), 3);
        due("I just off a line, across", f.count(0, 1), 3);
        due("I in a plane all across", Check.make(f, 0, 0, -100, -100, -100, 100, 100, 100, -100, 100, 100, 100, -100, -100), 3);
        due("I just off a plane", Check.make(f, 0, 0, Rows.THIN_PIECE), 4);
        due("I just off a plane, VOLUME", f.volume(0), 1);
    }

    // I: "At most 24 CORNERS."
    private static void most24Corners() {
        HullFoundry f = new HullFoundry();
        due("I 24 in a plane", Check.make(f, 0, 0, Rows.ring()), 3);
        due("I 24 in a plane", f.count(0, 1), 24);
        due("I 24 round a ball", Check.make(f, 1, 1, Rows.BALL), 4);
        due("I 24 round a ball", f.count(1, 1), 24);
        due("I one more in the plane", f.grow(0, 6, -20, 0), -2);
        due("I one more off the plane", f.grow(0, 0, 0, 1), -2);
        due("I one more on the ball", f.grow(1, -79, 6, 61), -2);
        due("I still 24 in the plane", f.count(0, 1), 24);
        due("I still 24 round the ball", f.count(1, 1), 24);
    }

    // promise 2: "TRAY t has n POINTS (0 .. 24)"
    private static void trayFromNoneTo24() {
        HullFoundry f = new HullFoundry();
        for (int t : SLOTS) {
            due("2 none", f.tray(t, 0), true);
            due("2 none: no POINT 0", f.point(t, 0, 1, 1, 1), false);
            due("2 none: it is there", f.solid(t, t), 0);
            due("2 one", f.tray(t, 1), true);
            due("2 one: POINT 0", f.point(t, 0, 1, 1, 1), true);
            due("2 one: no POINT 1", f.point(t, 1, 1, 1, 1), false);
            due("2 24", f.tray(t, 24), true);
            due("2 24: POINT 23", f.point(t, 23, 1, 1, 1), true);
            due("2 24: no POINT 24", f.point(t, 24, 1, 1, 1), false);
            due("2 25", f.tray(t, 25), false);
            due("2 25: it has 24 still, and its POINT 23", f.solid(t, t), 2);
            due("2 below NONE", f.tray(t, -2), false);
            due("2 below NONE: it is there still", f.solid(t, t), 2);
        }
    }

    // promise 2: "all 0 0 0"
    private static void trayIsAll000() {
        HullFoundry f = new HullFoundry();
        f.tray(0, 24);
        due("2 all 0 0 0", f.solid(0, 0), 1);
        Check.dueCorners(f, "2 all 0 0 0", 0, 0, 0, 0);
        Check.make(f, 0, 0, Rows.BALL);
        f.tray(0, 24);
        due("2 laid again", f.solid(0, 0), 1);
        Check.dueCorners(f, "2 laid again", 0, 0, 0, 0);
        Check.make(f, 0, 0, Rows.BALL);
        f.tray(0, 1);
        due("2 shorter: no POINT 1", f.point(0, 1, 1, 1, 1), false);
        f.tray(0, 24);
        due("2 longer again", f.solid(0, 0), 1);
        Check.dueCorners(f, "2 longer again", 0, 0, 0, 0);
    }

    // promise 2: "n NONE: it is missing: true"
    private static void trayBecomesMissing() {
        HullFoundry f = new HullFoundry();
        due("2 missing before", f.tray(3, HullFoundry.NONE), true);
        due("2 missing still", f.solid(0, 3), -1);
        Check.make(f, 0, 3, Rows.CORNER_PIECE);
        due("2 taken away", f.tray(3, HullFoundry.NONE), true);
        due("2 taken away: no POINT", f.point(3, 0, 0, 0, 0), false);
        due("2 taken away: no SOLID of it", f.solid(1, 3), -1);
        due("2 taken away: its SOLID stays", f.volume(0), 1);
        due("2 there again", f.tray(3, 2), true);
        due("2 there again: all 0 0 0", f.solid(1, 3), 1);
        Check.dueCorners(f, "2 there again", 1, 0, 0, 0);
    }

    // promise 2: "false when that can't be"
    private static void trayThatCannotBe() {
        HullFoundry f = new HullFoundry();
        for (int t : Check.NO_SLOTS) {
            due("2 TRAY " + t, f.tray(t, 1), false);
            due("2 TRAY missing " + t, f.tray(t, HullFoundry.NONE), false);
        }
        due("2 n " + Integer.MIN_VALUE, f.tray(0, Integer.MIN_VALUE), false);
        due("2 n " + Integer.MAX_VALUE, f.tray(0, Integer.MAX_VALUE), false);
        due("2 still missing", f.solid(0, 0), -1);
    }

    // promise 3: "POINT k of a TRAY: true"
    private static void firstAndLastPoint() {
        HullFoundry f = new HullFoundry();
        for (int t : SLOTS) {
            f.tray(t, 24);
            due("3 first", f.point(t, 0, -100, -100, -100), true);
            due("3 last", f.point(t, 23, 100, 100, 100), true);
            f.solid(t, t);
            Check.dueCorners(f, "3 first and last", t, -100, -100, -100, 100, 100, 100);
            due("3 once more", f.point(t, 23, 0, 0, -7), true);
            f.solid(t, t);
            Check.dueCorners(f, "3 the latest one counts", t, -100, -100, -100, 0, 0, -7, 0, 0, 0);
        }
    }

    // promise 3: "false when there is none such, or it is no POINT"
    private static void pointThatCannotBe() {
        HullFoundry f = new HullFoundry();
        f.tray(0, 2);
        f.point(0, 1, 5, 6, 7);
        due("3 below the first", f.point(0, -1, 1, 1, 1), false);
        due("3 beyond the last", f.point(0, 2, 1, 1, 1), false);
        due("3 far below", f.point(0, Integer.MIN_VALUE, 1, 1, 1), false);
        due("3 far beyond", f.point(0, Integer.MAX_VALUE, 1, 1, 1), false);
        due("3 no POINT", f.point(0, 1, 1, 1, 101), false);
        due("3 no POINT, first number", f.point(0, 1, -101, 1, 1), false);
        due("3 TRAY below", f.point(-1, 0, 1, 1, 1), false);
        due("3 TRAY beyond", f.point(8, 0, 1, 1, 1), false);
        f.solid(0, 0);
        Check.dueCorners(f, "3 as it was", 0, 0, 0, 0, 5, 6, 7);
    }

    // promise 4: "SOLID s becomes that of a TRAY's POINTS: its KIND"
    private static void solidOfFullAndEmptyTrays() {
        HullFoundry f = new HullFoundry();
        for (int s : SLOTS) {
            due("4 24 all needed", Check.make(f, s, s, Rows.BALL), 4);
            due("4 24 all needed", f.count(s, 1), 24);
            due("4 24 in a line", Check.make(f, s, s, Rows.line()), 2);
            Check.dueCorners(f, "4 24 in a line", s, -92, -92, -92, 92, 92, 92);
            due("4 empty: nothing", Check.make(f, s, s), 0);
            due("4 empty: no CORNERS", f.count(s, 1), 0);
            due("4 empty: no EDGES", f.count(s, 2), 0);
            due("4 empty: no FACES", f.count(s, 3), 0);
            due("4 one", Check.make(f, s, s, 1, 2, 3), 1);
        }
    }

    // promise 4: "NONE: no such SOLID, TRAY, or it is missing"
    private static void solidThatCannotBe() {
        HullFoundry f = new HullFoundry();
        Check.make(f, 0, 0, Rows.CORNER_PIECE);
        for (int wrong : Check.NO_SLOTS) {
            due("4 SOLID " + wrong, f.solid(wrong, 0), -1);
            due("4 TRAY " + wrong, f.solid(0, wrong), -1);
        }
        due("4 missing", f.solid(0, 7), -1);
        due("4 as it was", f.volume(0), 1);
        due("4 one change", f.undo(), 0);
    }

    // promise 5: "SOLID s grows by a POINT: its KIND"
    private static void growFromNothing() {
        HullFoundry f = new HullFoundry();
        for (int s : SLOTS) {
            due("5 nothing grows", f.grow(s, -100, -100, -100), 1);
            due("5 by its own POINT", f.grow(s, -100, -100, -100), 1);
            due("5 to a line", f.grow(s, 100, -100, -100), 2);
            due("5 in the line", f.grow(s, 0, -100, -100), 2);
            due("5 by an end of the line", f.grow(s, 100, -100, -100), 2);
            due("5 to a plane", f.grow(s, -100, 100, -100), 3);
            due("5 in the plane", f.grow(s, -1, -1, -100), 3);
            due("5 to others", f.grow(s, -100, -100, 100), 4);
            due("5 by a CORNER", f.grow(s, -100, -100, 100), 4);
            due("5 on an EDGE", f.grow(s, -100, -100, 0), 4);
            due("5 on a FACE", f.grow(s, -100, -50, -50), 4);
            due("5 within", f.grow(s, -99, -99, -99), 4);
            Check.dueCorners(f, "5 grown", s, -100, -100, -100, -100, -100, 100, -100, 100, -100, 100, -100, -100);
        }
    }

    // promise 5: "NONE: no such SOLID, POINT"; it comes before -2
    private static void growThatCannotBe() {
        HullFoundry f = new HullFoundry();
        Check.make(f, 0, 0, Rows.prism());
        due("5 no POINT, of a full SOLID", f.grow(0, 0, 101, 3), -1);
        due("5 no POINT, of nothing", f.grow(1, 0, 0, -101), -1);
        due("5 no such SOLID", f.grow(8, 0, 0, 0), -1);
        due("5 no such SOLID", f.grow(-1, 0, 0, 0), -1);
        due("5 nothing is nothing still", f.count(1, 0), 0);
        due("5 one change", f.undo(), 0);
    }

    // promise 5: "-2 it would have more than 24 CORNERS"
    private static void growBeyond24() {
        HullFoundry f = new HullFoundry();
        Check.make(f, 0, 0, Rows.prism());
        due("5 the 25th", f.grow(0, 0, -1, 3), -2);
        due("5 the 25th, off a FACE", f.grow(0, 0, 36, 8), -2);
        due("5 as it was", f.count(0, 1), 24);
        due("5 a CORNER of the 24", f.grow(0, 5, 25, 7), 4);
        due("5 on a FACE of the 24", f.grow(0, 0, 20, 7), 4);
        due("5 on an EDGE of the 24", f.grow(0, 0, 0, 3), 4);
        due("5 within the 24", f.grow(0, 0, 10, 3), 4);
        due("5 24 still", f.count(0, 1), 24);
        due("5 one in place of another", f.grow(0, -7, 47, 0), 4);
        due("5 one in place of another: 24", f.count(0, 1), 24);
        due("5 one in place of many", f.grow(0, 0, -100, 0), 4);
        due("5 one in place of many: fewer", f.count(0, 1) < 24, true);
    }

    // promise 6: "0 KIND, 1 CORNERS, 2 EDGES, 3 FACES"
    private static void countOfLeastAndMost() {
        HullFoundry f = new HullFoundry();
        int[][] rows = {{}, {9, 9, 9}, {0, 0, 0, 1, 0, 0}, {0, 0, 0, 1, 0, 0, 0, 1, 0}, Rows.ring(), Rows.CORNER_PIECE,
            Rows.BALL};
        int[][] counts = {{0, 0, 0, 0}, {1, 1, 0, 0}, {2, 2, 1, 0}, {3, 3, 3, 2}, {3, 24, 24, 2}, {4, 4, 6, 4},
            {4, 24, 66, 44}};
        for (int i = 0; i < rows.length; i++) {
            Check.make(f, i, i, rows[i]);
            for (int what = 0; what < 4; what++) {
                due("6 row " + i + " what " + what, f.count(i, what), counts[i][what]);
            }
        }
    }

    // promise 6: "NONE when there is none such, or for others"
    private static void countOfOthers() {
        HullFoundry f = new HullFoundry();
        for (int wrong : new int[] {-1, 4, Integer.MIN_VALUE, Integer.MAX_VALUE}) {
            due("6 what " + wrong, f.count(0, wrong), -1);
        }
        for (int wrong : Check.NO_SLOTS) {
            due("6 SOLID " + wrong, f.count(wrong, 0), -1);
        }
    }

    // promise 7: "CORNER k: axis 0 x, 1 y, 2 z; -1000 when there is none such"
    private static void cornerFirstAndLast() {
        HullFoundry f = new HullFoundry();
        Check.make(f, 7, 7, Rows.BALL);
        int[] ends = {-90, 37, 21, 97, -21, -12};
        for (int axis = 0; axis < 3; axis++) {
            due("7 the first", f.corner(7, 0, axis), ends[axis]);
            due("7 the last", f.corner(7, 23, axis), ends[3 + axis]);
            due("7 below the first", f.corner(7, -1, axis), -1000);
            due("7 beyond the last", f.corner(7, 24, axis), -1000);
            due("7 of nothing", f.corner(0, 0, axis), -1000);
            due("7 SOLID below", f.corner(-1, 0, axis), -1000);
            due("7 SOLID beyond", f.corner(8, 0, axis), -1000);
        }
        due("7 axis below", f.corner(7, 0, -1), -1000);
        due("7 axis beyond", f.corner(7, 0, 3), -1000);
        f.grow(0, 1, 1, 1);
        due("7 one, no second", f.corner(0, 1, 0), -1000);
        Check.make(f, 7, 0);
        due("7 not what was there before", f.corner(7, 0, 0), -1000);
    }

    public static void main(String[] args) {
        pointsEndAt100();
        traysAreMissingAtFirst();
        solidsAreOfKind0AtFirst();
        objectsShareNothing();
        cornersAreNeeded();
        cornersAreInOrder();
        kindsAtTheirBounds();
        most24Corners();
        trayFromNoneTo24();
        trayIsAll000();
        trayBecomesMissing();
        trayThatCannotBe();
        firstAndLastPoint();
        pointThatCannotBe();
        solidOfFullAndEmptyTrays();
        solidThatCannotBe();
        growFromNothing();
        growThatCannotBe();
        growBeyond24();
        countOfLeastAndMost();
        countOfOthers();
        cornerFirstAndLast();
        Check.end();
    }
}
