import java.util.Arrays;

/** Promises 20 to 24 and the 512 calls at their bounds: each sentence of the document that names one has a method here. */
public final class ChangeBoundsTest {
    private static final int LEAST = Integer.MIN_VALUE;
    private static final int MOST = Integer.MAX_VALUE;
    private static final int[] SLOTS = {0, 7};
    /** The same from every side. */
    private static final int[] STAR = {1, 0, 0, -1, 0, 0, 0, 1, 0, 0, -1, 0, 0, 0, 1, 0, 0, -1};

    private static void due(String what, long got, long want) {
        Check.due(what, got, want);
    }

    private static void due(String what, boolean got, boolean want) {
        Check.due(what, got, want);
    }

    private static boolean moveAlong(HullFoundry f, int axis, int way) {
        return f.move(0, axis == 0 ? way : 0, axis == 1 ? way : 0, axis == 2 ? way : 0);
    }

    // promise 20: "false when .. a CORNER would be no POINT": the rim, and one step beyond it
    private static void moveToTheRim() {
        for (int axis = 0; axis < 3; axis++) {
            HullFoundry f = Check.foundryWith(-100, -100, -100);
            due("20 below the rim", moveAlong(f, axis, -1), false);
            due("20 all across and one more", moveAlong(f, axis, 201), false);
            due("20 all across", moveAlong(f, axis, 200), true);
            due("20 all across", f.corner(0, 0, axis), 100);
            due("20 beyond the rim", moveAlong(f, axis, 1), false);
            due("20 all the way back and one more", moveAlong(f, axis, -201), false);
            due("20 all the way back", moveAlong(f, axis, -200), true);
            Check.dueCorners(f, "20 all the way back", 0, -100, -100, -100);
            for (int way : new int[] {LEAST, LEAST + 100, -65536, 65536, MOST - 100, MOST}) {
                due("20 by " + way, moveAlong(f, axis, way), false);
            }
            due("20 three changes", f.undo(), 2);
        }
    }

    // the same, where but one CORNER would be none
    private static void moveByOneCornerTooFar() {
        HullFoundry f = Check.foundryWith(0, 0, 0, 4, 0, 0, 0, 4, 0, 0, 0, 4, 1, 1, 90);
        due("20 but one too far", f.move(0, 0, 0, 11), false);
        due("20 just not too far", f.move(0, 0, 0, 10), true);
        due("20 one at the rim", f.in(0, 1, 1, 100, 1), 1);
        Check.make(f, 0, 0, Rows.BALL);
        due("20 24, by one too far", f.move(0, 4, 0, 0), false);
        due("20 24, to the rim", f.move(0, 3, 5, 4), true);
        due("20 24, to the rim", f.corner(0, 23, 0), 100);
        due("20 24 still", f.count(0, 1), 24);
        due("20 44 FACES still", f.count(0, 3), 44);
        due("20 VOLUME still", f.volume(0), 19444924);
    }

    // promise 20: "A SOLID is moved: true"
    private static void moveAllThatBelongsToIt() {
        HullFoundry f = Check.foundryWith(Rows.box(-1, -1, -1, 2));
        due("20 not at all", f.move(0, 0, 0, 0), true);
        due("20 moved", f.move(0, 99, -99, 50), true);
        Check.dueFace(f, "20 moved", 0, 0, -1, 0, 0, -98, 4, 8, 0, 1, 3, 2);
        Check.dueFace(f, "20 moved", 0, 1, 0, -1, 0, 100, 4, 8, 0, 4, 5, 1);
        due("20 MIDDLE", f.middle(0, 1, 0), -99);
        due("20 WIDTH", f.width(0, 0), 4);
        due("20 within", f.in(0, 99, -99, 50, 1), 2);
        due("20 no more there", f.in(0, 0, 0, 0, 1), 0);
    }

    // promise 20: nothing has no CORNER that would be no POINT
    private static void moveNothing() {
        HullFoundry f = new HullFoundry();
        for (int s : SLOTS) {
            due("20 nothing", f.move(s, 1, 1, 1), true);
            due("20 nothing, far", f.move(s, MOST, LEAST, 201), true);
            due("20 nothing still", f.count(s, 0), 0);
        }
        due("20 all of them are changes", f.undo(), 3);
    }

    // promises 20 to 23: "false when there is none such"
    private static void changesOfNoSolid() {
        HullFoundry f = Check.foundryWith(Rows.CORNER_PIECE);
        for (int s : Check.NO_SLOTS) {
            due("20 SOLID " + s, f.move(s, 0, 0, 0), false);
            due("21 SOLID " + s, f.mirror(s, 0), false);
            due("22 SOLID " + s, f.turn(s, 0), false);
            due("23 SOLID " + s, f.copy(s, 0), false);
            due("23 to " + s, f.copy(0, s), false);
            due("23 of nothing to " + s, f.copy(1, s), false);
        }
        Check.dueCorners(f, "20 as it was", 0, 0, 0, 0, 0, 0, 1, 0, 1, 0, 1, 0, 0);
        due("20 no change", f.undo(), 0);
    }

    // promises 21 and 22: an axis that is none
    private static void axesThatAreNone() {
        HullFoundry f = Check.foundryWith(1, 2, 3);
        for (int axis : new int[] {-1, 4, LEAST, MOST}) {
            due("21 axis " + axis, f.mirror(0, axis), false);
            due("21 of nothing, axis " + axis, f.mirror(1, axis), false);
        }
        for (int axis : new int[] {-1, 3, LEAST, MOST}) {
            due("22 axis " + axis, f.turn(0, axis), false);
            due("22 of nothing, axis " + axis, f.turn(1, axis), false);
        }
        Check.dueCorners(f, "21 as it was", 0, 1, 2, 3);
        due("21 no change", f.undo(), 0);
    }

    // promise 21: "the numbers of an axis have the other sign; axis 3: all three"
    private static void mirrorAtTheRim() {
        int[][] want = {{-100, 100, -100}, {100, -100, -100}, {100, 100, 100}, {-100, -100, 100}};
        for (int axis = 0; axis < 4; axis++) {
            HullFoundry f = Check.foundryWith(100, 100, -100);
            due("21 axis " + axis, f.mirror(0, axis), true);
            Check.dueCorners(f, "21 axis " + axis, 0, want[axis]);
            due("21 back, axis " + axis, f.mirror(0, axis), true);
            Check.dueCorners(f, "21 back, axis " + axis, 0, 100, 100, -100);
            f.grow(1, 0, 0, 0);
            due("21 0 0 0, axis " + axis, f.mirror(1, axis), true);
            Check.dueCorners(f, "21 0 0 0, axis " + axis, 1, 0, 0, 0);
            due("21 nothing, axis " + axis, f.mirror(7, axis), true);
            due("21 nothing still", f.count(7, 0), 0);
        }
    }

    // promise 21: FACES look outward and RINGS go against the clock afterwards, too
    private static void mirrorOfMostCorners() {
        HullFoundry f = Check.foundryWith(Rows.BALL);
        for (int axis = 0; axis < 4; axis++) {
            due("21 24, axis " + axis, f.mirror(0, axis), true);
            due("21 24 CORNERS", f.count(0, 1), 24);
            due("21 66 EDGES", f.count(0, 2), 66);
            due("21 44 FACES", f.count(0, 3), 44);
            due("21 VOLUME", f.volume(0), 19444924);
            due("21 WIDTH", f.width(0, 1), 2221145);
        }
        // all mirrored twice now
        f.solid(1, 0);
        due("21 there and back", f.same(0, 1), 1);
        Check.make(f, 2, 2, Rows.CORNER_PIECE);
        f.mirror(2, 0);
        Check.dueFace(f, "21 mirrored", 2, 0, -1, 1, 1, 1, 3, 1, 0, 2, 3);
        Check.dueFace(f, "21 mirrored", 2, 3, 1, 0, 0, 0, 3, 1, 1, 3, 2);
    }

    // promise 22: "0: x, y, z become x, -z, y; 1: z, y, -x; 2: -y, x, z"
    private static void turnAtTheRim() {
        int[][] want = {{100, 98, 99}, {-98, 99, -100}, {-99, 100, -98}};
        for (int axis = 0; axis < 3; axis++) {
            HullFoundry f = Check.foundryWith(100, 99, -98);
            due("22 axis " + axis, f.turn(0, axis), true);
            Check.dueCorners(f, "22 axis " + axis, 0, want[axis]);
            for (int i = 0; i < 3; i++) {
                due("22 on, axis " + axis, f.turn(0, axis), true);
            }
            Check.dueCorners(f, "22 all round, axis " + axis, 0, 100, 99, -98);
            due("22 nothing, axis " + axis, f.turn(7, axis), true);
            due("22 nothing still", f.count(7, 0), 0);
            Check.make(f, 1, 1, Rows.BALL);
            due("22 24, axis " + axis, f.turn(1, axis), true);
            due("22 24 CORNERS", f.count(1, 1), 24);
            due("22 VOLUME", f.volume(1), 19444924);
        }
    }

    // promise 23: "SOLID to is a copy: true"
    private static void copyOfNothingAndOfMost() {
        HullFoundry f = Check.foundryWith(Rows.BALL);
        due("23 from 0 to 7", f.copy(0, 7), true);
        due("23 the same", f.same(0, 7), 1);
        due("23 EDGES, too", f.count(7, 2), 66);
        due("23 FACES, too", f.count(7, 3), 44);
        due("23 from 7 to 0", f.copy(7, 0), true);
        due("23 of nothing", f.copy(1, 7), true);
        due("23 nothing now", f.count(7, 1), 0);
        due("23 the other one stays", f.count(0, 1), 24);
        due("23 of nothing onto nothing", f.copy(1, 2), true);
        due("23 of nothing onto itself", f.copy(1, 1), true);
        due("23 onto itself", f.copy(0, 0), true);
        due("23 onto itself: as it was", f.count(0, 1), 24);
        due("23 all of them are changes", f.undo(), 6);
    }

    // promise 23: a copy goes its own way
    private static void copyStandsAlone() {
        HullFoundry f = Check.foundryWith(Rows.CORNER_PIECE);
        f.copy(0, 1);
        f.grow(0, 5, 5, 5);
        due("23 the copy stays", f.volume(1), 1);
        f.mirror(1, 3);
        due("23 the first one stays", f.corner(0, 0, 0), 0);
        due("23 the copy is mirrored", f.corner(1, 0, 0), -1);
    }

    // promise 24: "NONE when there is none"
    private static void undoOfNone() {
        HullFoundry f = new HullFoundry();
        due("24 none", f.undo(), -1);
        f.tray(0, 3);
        f.point(0, 0, 1, 1, 1);
        due("24 TRAYS and POINTS are none", f.undo(), -1);
        due("24 nor taken back", f.solid(0, 0), 2);
        due("24 one", f.undo(), 0);
        due("24 none left", f.undo(), -1);
        due("24 none left, again", f.undo(), -1);
        due("24 nothing comes back", f.count(0, 0), 0);
    }

    // promise 24: "(.. the latest eight) .. how many more can be"
    private static void undoOfEightAndNine() {
        for (int done = 1; done <= 20; done++) {
            HullFoundry f = new HullFoundry();
            for (int x = 1; x <= done; x++) {
                f.grow(0, x, 0, 0);
            }
            int kept = Math.min(done, 8);
            for (int more = kept - 1; more >= 0; more--) {
                due("24 of " + done + ": more", f.undo(), more);
                int x = done - kept + more;
                int[] line = {1, 0, 0, x, 0, 0};
                Check.dueCorners(f, "24 of " + done, 0, Arrays.copyOf(line, 3 * Math.min(x, 2)));
            }
            due("24 of " + done + ": none left", f.undo(), -1);
        }
    }

    // promise 24: what is lost stays lost, and room is made again by taking back
    private static void undoAfterUndo() {
        HullFoundry f = new HullFoundry();
        for (int x = 1; x <= 9; x++) {
            f.grow(x % 2, x, 0, 0);
        }
        due("24 the ninth", f.undo(), 7);
        due("24 the eighth", f.undo(), 6);
        f.grow(2, 5, 5, 5);
        f.grow(3, 5, 5, 5);
        due("24 eight again", f.undo(), 7);
        due("24 the latest one", f.count(3, 0), 0);
        due("24 not the one before", f.count(2, 0), 1);
        f.grow(3, 6, 6, 6);
        f.grow(4, 6, 6, 6);
        f.grow(5, 6, 6, 6);
        for (int more = 7; more >= 0; more--) {
            due("24 eight and no more", f.undo(), more);
        }
        due("24 none left", f.undo(), -1);
        // growing by 1, 2, 3 can't be taken back any more
        Check.dueCorners(f, "24 the odd ones", 1, 1, 0, 0, 3, 0, 0);
        Check.dueCorners(f, "24 the even ones", 0, 2, 0, 0);
    }

    // promise 24: "solid() to copy()": each of the seven, each in a SOLID of its own
    private static void undoOfEachChange() {
        HullFoundry f = Check.foundryWith(STAR);
        f.copy(0, 1);
        due("24 solid", f.solid(1, 0) >= 0 ? f.undo() : -2, 2);
        f.grow(1, 9, 9, 9);
        due("24 grow", f.undo(), 2);
        f.sum(0, 0, 1);
        due("24 sum", f.undo(), 2);
        f.move(1, 1, 2, 3);
        due("24 move", f.undo(), 2);
        f.move(1, 1, 2, 3);
        f.mirror(1, 0);
        due("24 mirror", f.undo(), 3);
        Check.dueCorners(f, "24 mirrored back", 1, 0, 2, 3, 1, 1, 3, 1, 2, 2, 1, 2, 4, 1, 3, 3, 2, 2, 3);
        f.turn(1, 1);
        due("24 turn", f.undo(), 3);
        Check.dueCorners(f, "24 turned back", 1, 0, 2, 3, 1, 1, 3, 1, 2, 2, 1, 2, 4, 1, 3, 3, 2, 2, 3);
        f.copy(7, 1);
        due("24 copy", f.undo(), 3);
        due("24 move, too", f.undo(), 2);
        due("24 as it was", f.same(0, 1), 1);
    }

    // promise 24: "also one that left it as it was"
    private static void undoOfIdleChanges() {
        HullFoundry f = Check.foundryWith(STAR);
        f.grow(6, 0, 0, 0);
        due("24 solid of the same TRAY", f.solid(0, 0), 4);
        due("24 grow by a CORNER", f.grow(0, 1, 0, 0), 4);
        due("24 sum with 0 0 0", f.sum(0, 6, 0), 4);
        due("24 move not at all", f.move(0, 0, 0, 0), true);
        due("24 mirror of what is the same", f.mirror(0, 2), true);
        due("24 turn of what is the same", f.turn(0, 1), true);
        due("24 copy onto itself", f.copy(0, 0), true);
        for (int more = 7; more >= 1; more--) {
            due("24 idle, yet a change", f.undo(), more);
            due("24 idle", f.volume(0), 8);
        }
        due("24 then the one that was not", f.undo(), 0);
        due("24 nothing in 6", f.count(6, 0), 0);
    }

    // promise 24: "change .. that was done": a refused one is none
    private static void undoSkipsRefused() {
        HullFoundry f = Check.foundryWith(Rows.prism());
        due("24 refused solid", f.solid(0, 5), -1);
        due("24 refused grow", f.grow(0, 101, 0, 0), -1);
        due("24 refused grow, full", f.grow(0, 0, -1, 3), -2);
        due("24 refused sum", f.sum(0, 8, 0), -1);
        f.grow(1, 100, 0, 0);
        due("24 refused sum, too far", f.sum(0, 1, 0), -2);
        due("24 refused move", f.move(0, 100, 0, 0), false);
        due("24 refused mirror", f.mirror(0, 4), false);
        due("24 refused turn", f.turn(0, 3), false);
        due("24 refused copy", f.copy(0, 8), false);
        due("24 two changes", f.undo(), 1);
        due("24 two changes", f.undo(), 0);
        due("24 two changes", f.undo(), -1);
        due("24 nothing", f.count(0, 0), 0);
    }

    // promise 24: all that belongs to the SOLID is as it was
    private static void undoBringsAllBack() {
        HullFoundry f = Check.foundryWith(Rows.THIN_PIECE);
        due("24 WIDTH before", f.width(0, 1), 4768159601L);
        f.grow(0, 0, 0, 0);
        due("24 another WIDTH", f.width(0, 0) == 1, false);
        f.undo();
        due("24 WIDTH, above", f.width(0, 0), 1);
        due("24 WIDTH, below", f.width(0, 1), 4768159601L);
        due("24 VOLUME", f.volume(0), 1);
        due("24 EDGES", f.count(0, 2), 6);
        Check.dueFace(f, "24 FACES", 0, 3, 39800, -40000, -39801, 3960100, 3, 1, 0, 3, 2);
        f.sum(7, 7, 0);
        due("24 nothing", f.count(0, 0), 0);
        f.undo();
        due("24 KIND", f.count(0, 0), 4);
        due("24 WIDTH again", f.width(0, 1), 4768159601L);
    }

    // "An object is used for at most 512 calls after it has been made"
    private static void answersUpTo512Calls() {
        HullFoundry f = new HullFoundry();
        int calls = 0;
        for (int round = 0; round < 128; round++) {
            int x = round - 60;
            due("512 grow, after " + calls, f.grow(0, x, 0, 0), Math.min(round + 1, 2));
            due("512 copy, after " + calls, f.copy(0, 1), true);
            due("512 undo, after " + calls, f.undo(), Math.min(round + 1, 7));
            due("512 corner, after " + calls, f.corner(0, Math.min(round, 1), 0), x);
            calls += 4;
        }
        due("512 calls", calls, 512);
    }

    public static void main(String[] args) {
        moveToTheRim();
        moveByOneCornerTooFar();
        moveAllThatBelongsToIt();
        moveNothing();
        changesOfNoSolid();
        axesThatAreNone();
        mirrorAtTheRim();
        mirrorOfMostCorners();
        turnAtTheRim();
        copyOfNothingAndOfMost();
        copyStandsAlone();
        undoOfNone();
        undoOfEightAndNine();
        undoAfterUndo();
        undoOfEachChange();
        undoOfIdleChanges();
        undoSkipsRefused();
        undoBringsAllBack();
        answersUpTo512Calls();
        Check.end();
    }
}
