/** Promises 10 to 19: in, side, volume, middle, far, width, sum, apart, near, same. */
public final class MeasureTest {
    private static void due(String what, long got, long want) {
        Check.due(what, got, want);
    }

    private static void promise10In() {
        HullFoundry f = new HullFoundry();
        due("10 KIND 0", f.in(0, 0, 0, 0, 1), 0);
        Check.make(f, 1, 1, 2, -3, 4);
        due("10 KIND 1", f.in(1, 2, -3, 4, 1), 1);
        due("10 KIND 1, fraction", f.in(1, 2000, -3000, 4000, 1000), 1);
        due("10 KIND 1, beside", f.in(1, 2000, -3000, 4001, 1000), 0);
        Check.make(f, 2, 2, 0, 0, 0, 3, 6, -3);
        due("10 KIND 2, end", f.in(2, 3, 6, -3, 1), 1);
        due("10 KIND 2, other end", f.in(2, 0, 0, 0, 7), 1);
        due("10 KIND 2, third", f.in(2, 1, 2, -1, 3), 1);
        due("10 KIND 2, longer", f.in(2, 3001, 6002, -3001, 1000), 0);
        due("10 KIND 2, shorter", f.in(2, -1, -2, 1, 1000), 0);
        due("10 KIND 2, beside", f.in(2, 1, 2, 1, 1), 0);
        Check.make(f, 3, 3, 4, 0, 0, 0, 4, 0, 0, 0, 4);
        due("10 KIND 3, within", f.in(3, 4, 4, 4, 3), 1);
        due("10 KIND 3, on a side", f.in(3, 2, 2, 0, 1), 1);
        due("10 KIND 3, corner", f.in(3, 4, 0, 0, 1), 1);
        due("10 KIND 3, in its plane outside", f.in(3, 5, -1, 0, 1), 0);
        due("10 KIND 3, in its plane just outside", f.in(3, 2000, 2001, -1, 1000), 0);
        due("10 KIND 3, off its plane", f.in(3, 1, 1, 1, 1), 0);
        Check.make(f, 4, Rows.box(-100, -100, -100, 200));
        due("10 KIND 4, within", f.in(4, 99999, -99999, 99999, 1000), 2);
        due("10 KIND 4, on a face", f.in(4, 100000, -99999, 99999, 1000), 1);
        due("10 KIND 4, on an edge", f.in(4, 100, -100, 0, 1), 1);
        due("10 KIND 4, on a corner", f.in(4, 100, -100, 100, 1), 1);
        due("10 KIND 4, out", f.in(4, 100001, 0, 0, 1000), 0);
        due("10 farthest out", f.in(4, 1000000, -1000000, 1000000, 1), 0);
        int[][] wrong = {{1000001, 0, 0, 1}, {-1000001, 0, 0, 1}, {0, 1000001, 0, 1}, {0, -1000001, 0, 1},
            {0, 0, 1000001, 1}, {0, 0, -1000001, 1}, {0, 0, 0, 0}, {0, 0, 0, 1001}, {0, 0, 0, -1},
            {Integer.MIN_VALUE, 0, 0, 1}};
        for (int[] v : wrong) {
            due("10 refused", f.in(4, v[0], v[1], v[2], v[3]), -1);
            due("10 refused of KIND 0, too", f.in(0, v[0], v[1], v[2], v[3]), -1);
        }
        due("10 no such", f.in(8, 0, 0, 0, 1), -1);
        due("10 no such", f.in(-1, 0, 0, 0, 1), -1);
    }

    private static void promise11Side() {
        HullFoundry f = new HullFoundry();
        due("11 KIND 0", f.side(0, 1, 0, 0, 0), 0);
        Check.make(f, 1, Rows.CORNER_PIECE);
        due("11 all below", f.side(1, 1, 1, 1, 2), 1);
        due("11 below and on", f.side(1, 1, 1, 1, 1), 3);
        due("11 on and above", f.side(1, 1, 1, 1, 0), 6);
        due("11 all above", f.side(1, 1, 1, 1, -1), 4);
        due("11 below and above", f.side(1, 2, 2, 2, 1), 5);
        due("11 all three", f.side(1, 1, -1, 0, 0), 7);
        Check.make(f, 2, 2, 100, 100, -100);
        due("11 on, farthest", f.side(2, 1000, 1000, -1000, 300000), 2);
        due("11 far off", f.side(2, 1000, 1000, -1000, 1000000), 1);
        due("11 far off", f.side(2, -1000, 0, 0, -1000000), 4);
        int[][] wrong = {{0, 0, 0, 0}, {0, 0, 0, 5}, {1001, 0, 0, 0}, {-1001, 0, 0, 0}, {1, 1001, 0, 0}, {1, -1001, 0, 0},
            {1, 0, 1001, 0}, {1, 0, -1001, 0}, {1, 0, 0, 1000001}, {1, 0, 0, -1000001}, {Integer.MIN_VALUE, 0, 0, 0}};
        for (int[] v : wrong) {
            due("11 refused", f.side(2, v[0], v[1], v[2], v[3]), -1);
        }
        due("11 no such", f.side(8, 1, 0, 0, 0), -1);
        due("11 no such", f.side(-1, 1, 0, 0, 0), -1);
    }

    private static void promise12Volume() {
        HullFoundry f = new HullFoundry();
        due("12 KIND 0", f.volume(0), 0);
        f.grow(0, 1, 1, 1);
        due("12 KIND 1", f.volume(0), 0);
        f.grow(0, 2, 1, 1);
        due("12 KIND 2", f.volume(0), 0);
        f.grow(0, 2, 9, 1);
        due("12 KIND 3", f.volume(0), 0);
        f.grow(0, 2, 9, 7);
        due("12 KIND 4", f.volume(0), 48);
        Check.make(f, 1, Rows.box(-7, 20, 3, 5));
        due("12 box", f.volume(1), 6 * 125);
        due("12 no such", f.volume(8), -1);
        due("12 no such", f.volume(-1), -1);
    }

    private static void promise13Middle() {
        HullFoundry f = new HullFoundry();
        Check.make(f, 0, 0, -1, 0, 0, -2, 0, 0, -1, 1, 0, -1, 0, 5);
        long[] piece = {-5, 4, 1, 4, 5, 4};
        for (int axis = 0; axis < 3; axis++) {
            due("13 piece, above", f.middle(0, axis, 0), piece[2 * axis]);
            due("13 piece, below", f.middle(0, axis, 1), piece[2 * axis + 1]);
        }
        Check.make(f, 1, Rows.box(-2, -3, 4, 4));
        long[] box = {0, 1, -1, 1, 6, 1};
        for (int axis = 0; axis < 3; axis++) {
            due("13 box, above", f.middle(1, axis, 0), box[2 * axis]);
            due("13 box, below", f.middle(1, axis, 1), box[2 * axis + 1]);
        }
        due("13 what", f.middle(1, 2, 2), 0);
        due("13 what", f.middle(1, 2, -1), 0);
        due("13 axis", f.middle(1, 3, 1), 0);
        due("13 axis", f.middle(1, -1, 1), 0);
        due("13 no such", f.middle(8, 0, 1), 0);
        due("13 no such", f.middle(-1, 0, 1), 0);
        Check.make(f, 2, 2, 1, 1, 1, 2, 2, 2, 3, 4, 5);
        due("13 KIND 3", f.middle(2, 0, 0), 0);
        due("13 KIND 3", f.middle(2, 0, 1), 0);
        due("13 KIND 0", f.middle(3, 0, 1), 0);
    }

    private static void promise14Far() {
        HullFoundry f = new HullFoundry();
        due("14 KIND 0", f.far(0, 0), -1);
        f.grow(0, 1, 1, 1);
        due("14 KIND 1", f.far(0, 2), -1);
        f.grow(0, -3, 4, 1);
        int[] line = {0, 1, 25, -1};
        for (int what = 0; what < 4; what++) {
            due("14 KIND 2", f.far(0, what), line[what]);
        }
        due("14 what", f.far(0, -1), -1);
        Check.make(f, 1, Rows.EVEN_PIECE);
        due("14 all even", f.far(1, 0), 0);
        due("14 all even", f.far(1, 1), 1);
        due("14 all even", f.far(1, 2), 2);
        Check.make(f, 2, 2, 0, 0, 0, 0, 2, 0, 5, 0, 0, 5, 2, 0);
        due("14 both slants of a leaf: lesser first", f.far(2, 0), 0);
        due("14 both slants of a leaf", f.far(2, 1), 3);
        due("14 both slants of a leaf", f.far(2, 2), 29);
        Check.make(f, 2, 2, 0, 0, 0, 1, 0, 0, 9, 0, -1, 9, 0, 1);
        due("14 two from one: the lesser other one", f.far(2, 0), 0);
        due("14 two from one: the lesser other one", f.far(2, 1), 1);
        due("14 two from one", f.far(2, 2), 82);
        Check.make(f, 2, 2, 0, 0, 0, 1, 5, 5, 8, -1, -9, 8, 0, 3);
        due("14 not with the first CORNER", f.far(2, 0), 1);
        due("14 not with the first CORNER", f.far(2, 1), 2);
        due("14 not with the first CORNER", f.far(2, 2), 281);
        Check.make(f, 3, Rows.box(-100, -100, -100, 200));
        due("14 box", f.far(3, 0), 0);
        due("14 box", f.far(3, 1), 7);
        due("14 box", f.far(3, 2), 120000);
        due("14 no such", f.far(8, 0), -1);
        due("14 no such", f.far(-1, 0), -1);
    }

    private static void promise15Width() {
        HullFoundry f = new HullFoundry();
        Check.make(f, 0, Rows.CORNER_PIECE);
        due("15 from a FACE, above", f.width(0, 0), 1);
        due("15 from a FACE, below", f.width(0, 1), 3);
        Check.make(f, 1, Rows.EVEN_PIECE);
        due("15 between EDGES, above", f.width(1, 0), 1);
        due("15 between EDGES, below", f.width(1, 1), 1);
        f.grow(1, 0, 0, -2);
        f.undo();
        due("15 as before", f.width(1, 0), 1);
        Check.make(f, 2, Rows.box(0, 0, 0, 7));
        due("15 box", f.width(2, 0), 49);
        f.grow(2, 3, 3, 20);
        due("15 after a change", f.width(2, 0), 49);
        Check.make(f, 2, Rows.box(0, 0, 0, 3));
        due("15 another one in its place", f.width(2, 0), 9);
        due("15 what", f.width(0, 2), -1);
        due("15 what", f.width(0, -1), -1);
        Check.make(f, 3, 3, 0, 0, 0, 1, 0, 0, 0, 1, 0);
        due("15 KIND 3", f.width(3, 0), -1);
        due("15 KIND 0", f.width(4, 1), -1);
        due("15 no such", f.width(8, 0), -1);
        due("15 no such", f.width(-1, 0), -1);
    }

    private static void promise16Sum() {
        HullFoundry f = new HullFoundry();
        Check.make(f, 0, Rows.box(1, 2, 3, 2));
        Check.make(f, 1, 1, 10, 0, 0);
        due("16 with one POINT", f.sum(0, 1, 2), 4);
        due("16 with one POINT: moved", f.corner(2, 0, 0), 11);
        due("16 with one POINT: all of it", f.volume(2), 48);
        Check.make(f, 3, 3, 0, 0, 0, 0, 0, 5);
        due("16 with a line", f.sum(3, 0, 2), 4);
        due("16 with a line: longer", f.volume(2), 6 * 2 * 2 * 7);
        due("16 line and line", f.sum(3, 3, 3), 2);
        due("16 in its own place", f.corner(3, 1, 2), 10);
        Check.make(f, 4, 4, 0, 0, 0, 3, 1, 0);
        due("16 line across line", f.sum(3, 4, 5), 3);
        due("16 line across line", f.count(5, 1), 4);
        due("16 nothing", f.sum(0, 7, 5), 0);
        due("16 nothing is a change", f.count(5, 0), 0);
        due("16 nothing is taken back", f.undo(), 7);
        due("16 nothing is taken back", f.count(5, 1), 4);
        Check.make(f, 6, Rows.box(0, 0, 0, 51));
        due("16 beyond", f.sum(6, 6, 6), -2);
        due("16 beyond: as it was", f.corner(6, 7, 0), 51);
        due("16 beyond is no change", f.undo(), 7);
        Check.make(f, 6, Rows.box(0, 0, 0, 50));
        due("16 just not beyond", f.sum(6, 6, 6), 4);
        due("16 just not beyond", f.corner(6, 7, 2), 100);
        Check.make(f, 5, Rows.prism());
        Check.make(f, 7, 7, 0, 0, 0, 0, 0, 1);
        due("16 24 CORNERS", f.sum(5, 7, 4), 4);
        due("16 24 CORNERS", f.count(4, 1), 24);
        Check.make(f, 7, 7, 0, 0, 0, 0, 1, 0);
        due("16 more than 24", f.sum(5, 7, 4), -2);
        due("16 more than 24: as it was", f.count(4, 1), 24);
        due("16 doubled", f.sum(5, 5, 4), 4);
        due("16 doubled", f.count(4, 1), 24);
        due("16 doubled", f.volume(4), 8 * f.volume(5));
        int[][] wrong = {{8, 0, 0}, {0, 8, 0}, {0, 0, 8}, {-1, 0, 0}, {0, -1, 0}, {0, 0, -1}};
        for (int[] v : wrong) {
            due("16 no such", f.sum(v[0], v[1], v[2]), -1);
        }
    }

    private static void dueNear(HullFoundry f, String what, long above, long below) {
        for (int turn = 0; turn < 2; turn++) {
            due(what, f.near(turn, 1 - turn, 0), above);
            due(what, f.near(turn, 1 - turn, 1), below);
            due(what, f.apart(turn, 1 - turn), above > 0 ? 1 : 0);
        }
    }

    private static void promises17And18ApartNear() {
        HullFoundry f = new HullFoundry();
        due("17 KIND 0", f.apart(0, 1), 1);
        due("17 KIND 0 and itself", f.apart(0, 0), 1);
        due("18 KIND 0", f.near(0, 1, 0), -1);
        Check.make(f, 0, 0, 0, 0, 0);
        due("17 one of KIND 0", f.apart(0, 1), 1);
        due("17 one of KIND 0", f.apart(1, 0), 1);
        due("18 one of KIND 0", f.near(0, 1, 1), -1);
        due("18 one of KIND 0", f.near(1, 0, 1), -1);
        due("17 itself", f.apart(0, 0), 0);
        due("18 itself", f.near(0, 0, 0), 0);
        due("18 itself", f.near(0, 0, 1), 1);
        Check.make(f, 1, 1, 1, 0, 0, 0, 1, 0, 0, 0, 1);
        dueNear(f, "18 POINT and figure", 1, 3);
        Check.make(f, 1, 1, 1, 0, 0, 0, 2, 0);
        dueNear(f, "18 POINT and line", 4, 5);
        Check.make(f, 1, 1, 3, -1, 1, 5, 9, 9);
        dueNear(f, "18 POINT and a line's end", 11, 1);
        Check.make(f, 1, 1, -1, -1, -1, 2, 2, 2);
        dueNear(f, "18 POINT on a line", 0, 1);
        Check.make(f, 1, 1, -1, -1, 0, 2, 0, 0, 0, 2, 0);
        dueNear(f, "18 POINT in a figure", 0, 1);
        Check.make(f, 1, Rows.box(-1, -1, -1, 2));
        dueNear(f, "18 POINT within", 0, 1);
        Check.make(f, 0, 0, -5, 0, 0, 5, 0, 0);
        Check.make(f, 1, 1, 0, -3, 2, 1, 3, 3);
        dueNear(f, "18 lines past each other", 225, 37);
        Check.make(f, 1, 1, 8, 0, 0, 9, 0, 0);
        dueNear(f, "18 lines one after the other", 9, 1);
        Check.make(f, 1, 1, -2, 3, 4, 2, 3, 4);
        dueNear(f, "18 lines side by side", 25, 1);
        Check.make(f, 1, 1, 5, 0, 0, 9, 9, 9);
        dueNear(f, "18 lines that touch", 0, 1);
        Check.make(f, 1, 1, 0, 1, 1, 0, -1, 2, 1, 0, -5);
        dueNear(f, "18 a line through a figure", 0, 1);
        Check.make(f, 0, Rows.box(0, 0, 0, 2));
        Check.make(f, 1, Rows.box(2, 2, 2, 2));
        dueNear(f, "18 boxes that share a CORNER", 0, 1);
        Check.make(f, 1, Rows.box(3, 0, 0, 2));
        dueNear(f, "18 boxes face to face", 1, 1);
        Check.make(f, 1, Rows.box(-100, -100, -100, 1));
        f.move(0, 98, 98, 98);
        dueNear(f, "18 boxes as far as can be", 3 * 197 * 197, 1);
        Check.make(f, 0, Rows.box(0, 0, 0, 10));
        Check.make(f, 1, Rows.box(4, 4, 4, 1));
        dueNear(f, "18 one within the other", 0, 1);
        due("18 what", f.near(0, 1, 2), -1);
        due("18 what", f.near(0, 1, -1), -1);
        int[][] wrong = {{8, 0}, {0, 8}, {-1, 0}, {0, -1}};
        for (int[] v : wrong) {
            due("17 no such", f.apart(v[0], v[1]), -1);
            due("18 no such", f.near(v[0], v[1], 0), -1);
        }
    }

    private static void promise19Same() {
        HullFoundry f = new HullFoundry();
        due("19 KIND 0", f.same(0, 1), 1);
        Check.make(f, 0, 0, 0, 0, 0, 2, 0, 0, 0, 2, 0, 1, 1, 0, 1, 0, 0);
        due("19 one of KIND 0", f.same(0, 1), 0);
        Check.make(f, 1, 1, 0, 2, 0, 2, 0, 0, 0, 0, 0);
        due("19 told otherwise", f.same(0, 1), 1);
        due("19 told otherwise", f.same(1, 0), 1);
        f.move(1, 0, 0, 1);
        due("19 moved", f.same(0, 1), 0);
        due("19 itself", f.same(1, 1), 1);
        Check.make(f, 1, 1, 0, 2, 0, 2, 0, 0, 0, 1, 0);
        due("19 one CORNER is another", f.same(0, 1), 0);
        Check.make(f, 1, 1, 0, 0, 0, 0, 2, 0);
        due("19 part", f.same(0, 1), 0);
        int[][] wrong = {{8, 0}, {0, 8}, {-1, 0}, {0, -1}};
        for (int[] v : wrong) {
            due("19 no such", f.same(v[0], v[1]), -1);
        }
    }

    public static void main(String[] args) {
        promise10In();
        promise11Side();
        promise12Volume();
        promise13Middle();
        promise14Far();
        promise15Width();
        promise16Sum();
        promises17And18ApartNear();
        promise19Same();
        Check.end();
    }
}
