/** Promises 20 to 24: move, mirror, turn, copy, undo. */
public final class ChangeTest {
    private static void due(String what, long got, long want) {
        Check.due(what, got, want);
    }

    private static void due(String what, boolean got, boolean want) {
        Check.due(what, got, want);
    }

    private static void dueCorner(HullFoundry f, String what, int s, int k, int... numbers) {
        for (int axis = 0; axis < 3; axis++) {
            due(what + ", axis " + axis, f.corner(s, k, axis), numbers[axis]);
        }
    }

    private static void promise20Move() {
        HullFoundry f = new HullFoundry();
        due("20 KIND 0", f.move(0, 5, 5, 5), true);
        due("20 KIND 0, far", f.move(0, Integer.MAX_VALUE, Integer.MIN_VALUE, 0), true);
        due("20 KIND 0 is a change", f.undo(), 1);
        Check.make(f, 0, 0, 1, 2, 3, -4, 0, 9);
        due("20 moved", f.move(0, 10, -20, 30), true);
        dueCorner(f, "20 moved", 0, 0, 6, -20, 39);
        dueCorner(f, "20 moved", 0, 1, 11, -18, 33);
        due("20 to the rim", f.move(0, 89, 118, -133), true);
        dueCorner(f, "20 at the rim", 0, 1, 100, 100, -100);
        int[][] wrong = {{1, 0, 0}, {0, 1, 0}, {0, 0, -1}, {-196, 0, 0}, {201, 0, 0}, {Integer.MAX_VALUE, 0, 0},
            {0, Integer.MIN_VALUE, 0}, {0, 0, Integer.MAX_VALUE}, {Integer.MIN_VALUE, Integer.MIN_VALUE, Integer.MIN_VALUE}};
        for (int[] v : wrong) {
            due("20 beyond", f.move(0, v[0], v[1], v[2]), false);
            dueCorner(f, "20 refused: as it was", 0, 1, 100, 100, -100);
        }
        due("20 across", f.move(0, -195, 0, 0), true);
        due("20 refused is no change", f.undo(), 4);
        due("20 no such", f.move(8, 0, 0, 0), false);
        due("20 no such", f.move(-1, 0, 0, 0), false);
        due("20 not at all", f.move(0, 0, 0, 0), true);
        due("20 not at all is a change", f.undo(), 4);
        Check.make(f, 1, 1, -100, -100, -100);
        due("20 all across", f.move(1, 200, 200, 200), true);
        dueCorner(f, "20 all across", 1, 0, 100, 100, 100);
        Check.make(f, 2, Rows.box(0, 0, 0, 2));
        f.move(2, -3, 0, 0);
        due("20 faces go along", f.face(2, 0, 3), 3);
        due("20 faces go along", f.face(2, 5, 3), -1);
    }

    private static void promise21Mirror() {
        HullFoundry f = new HullFoundry();
        int[][] want = {{-1, 2, 3}, {1, -2, 3}, {1, 2, -3}, {-1, -2, -3}};
        for (int axis = 0; axis < 4; axis++) {
            Check.make(f, 0, 0, 1, 2, 3);
            due("21 axis " + axis, f.mirror(0, axis), true);
            dueCorner(f, "21 axis " + axis, 0, 0, want[axis]);
        }
        due("21 axis", f.mirror(0, 4), false);
        due("21 axis", f.mirror(0, -1), false);
        due("21 no such", f.mirror(8, 0), false);
        due("21 no such", f.mirror(-1, 0), false);
        due("21 refused is no change", f.undo(), 7);
        due("21 KIND 0", f.mirror(5, 0), true);
        Check.make(f, 1, 1, 0, 0, 0, 7, 0, 0, 0, 5, 0, 0, 0, 3);
        due("21 order anew", f.mirror(1, 0), true);
        dueCorner(f, "21 order anew", 1, 0, -7, 0, 0);
        due("21 volume is above 0 still", f.volume(1), 105);
        due("21 faces anew", f.face(1, 0, 0), -15);
        due("21 faces anew", f.face(1, 3, 0), 1);
        f.mirror(1, 3);
        due("21 there", f.face(1, 0, 0), -1);
        f.mirror(1, 3);
        due("21 and back", f.face(1, 0, 0), -15);
    }

    private static void promise22Turn() {
        HullFoundry f = new HullFoundry();
        int[][] want = {{1, -3, 2}, {3, 2, -1}, {-2, 1, 3}};
        for (int axis = 0; axis < 3; axis++) {
            Check.make(f, 0, 0, 1, 2, 3);
            due("22 axis " + axis, f.turn(0, axis), true);
            dueCorner(f, "22 axis " + axis, 0, 0, want[axis]);
            for (int i = 0; i < 3; i++) {
                f.turn(0, axis);
            }
            dueCorner(f, "22 all the way round " + axis, 0, 0, 1, 2, 3);
        }
        due("22 axis", f.turn(0, 3), false);
        due("22 axis", f.turn(0, -1), false);
        due("22 no such", f.turn(8, 0), false);
        due("22 no such", f.turn(-1, 0), false);
        due("22 refused is no change", f.undo(), 7);
        due("22 KIND 0", f.turn(5, 2), true);
        Check.make(f, 1, 1, 0, 0, 0, 2, 0, 0, 0, 3, 0, 0, 0, 4);
        f.turn(1, 0);
        due("22 volume", f.volume(1), 24);
        dueCorner(f, "22 order anew", 1, 0, 0, -4, 0);
        dueCorner(f, "22 order anew", 1, 2, 0, 0, 3);
    }

    private static void promise23Copy() {
        HullFoundry f = new HullFoundry();
        Check.make(f, 0, Rows.box(0, 0, 0, 2));
        due("23 copy", f.copy(0, 7), true);
        due("23 copy", f.same(0, 7), 1);
        due("23 copy", f.count(7, 2), 12);
        f.move(7, 1, 1, 1);
        due("23 each for itself", f.corner(0, 0, 0), 0);
        f.move(0, 5, 5, 5);
        due("23 each for itself", f.corner(7, 0, 0), 1);
        due("23 onto itself", f.copy(0, 0), true);
        due("23 onto itself", f.corner(0, 0, 0), 5);
        due("23 onto itself is a change", f.undo(), 4);
        due("23 of nothing", f.copy(3, 0), true);
        due("23 of nothing", f.count(0, 0), 0);
        int[][] wrong = {{8, 0}, {0, 8}, {-1, 0}, {0, -1}};
        for (int[] v : wrong) {
            due("23 no such", f.copy(v[0], v[1]), false);
        }
        due("23 refused is no change", f.undo(), 4);
    }

    private static void promise24Undo() {
        HullFoundry f = new HullFoundry();
        due("24 none", f.undo(), -1);
        for (int x = 1; x <= 10; x++) {
            Check.make(f, 0, 0, x, 0, 0);
        }
        for (int left = 7; left >= 0; left--) {
            due("24 the latest eight", f.undo(), left);
            dueCorner(f, "24 the latest eight", 0, 0, left + 2, 0, 0);
        }
        due("24 no more", f.undo(), -1);
        dueCorner(f, "24 no more", 0, 0, 2, 0, 0);
        f.tray(0, 2);
        due("24 a TRAY is no change", f.undo(), -1);
        f.solid(1, 0);
        f.grow(1, 0, 0, 9);
        f.sum(1, 1, 2);
        f.move(2, 1, 0, 0);
        f.mirror(1, 2);
        f.turn(1, 0);
        f.copy(2, 3);
        f.count(0, 0);
        f.near(1, 2, 0);
        due("24 copy", f.undo(), 6);
        due("24 copy", f.count(3, 0), 0);
        dueCorner(f, "24 turned", 1, 1, 0, 9, 0);
        due("24 turn", f.undo(), 5);
        dueCorner(f, "24 mirrored", 1, 0, 0, 0, -9);
        due("24 mirror", f.undo(), 4);
        dueCorner(f, "24 not mirrored", 1, 1, 0, 0, 9);
        dueCorner(f, "24 moved", 2, 1, 1, 0, 18);
        due("24 move", f.undo(), 3);
        dueCorner(f, "24 not moved", 2, 1, 0, 0, 18);
        due("24 sum", f.undo(), 2);
        due("24 no sum", f.count(2, 0), 0);
        due("24 a change after that", f.grow(2, 1, 1, 1), 1);
        due("24 it is the latest", f.undo(), 2);
        due("24 grow", f.undo(), 1);
        due("24 not grown", f.count(1, 0), 1);
        due("24 solid", f.undo(), 0);
        due("24 no solid", f.count(1, 0), 0);
        due("24 no more", f.undo(), -1);
        due("24 the TRAY is as it was", f.solid(4, 0), 1);
    }

    public static void main(String[] args) {
        promise20Move();
        promise21Mirror();
        promise22Turn();
        promise23Copy();
        promise24Undo();
        Check.end();
    }
}
