/** Promises 1 to 9: a new object, tray, point, solid, grow, count, corner, edge, face. */
public final class BuildTest {
    private static final long NO_FACE = -2000000000L;

    private static void due(String what, long got, long want) {
        Check.due(what, got, want);
    }

    private static void due(String what, boolean got, boolean want) {
        Check.due(what, got, want);
    }

    private static void promise1NewObject() {
        HullFoundry f = new HullFoundry();
        due("1 NONE", HullFoundry.NONE, -1);
        for (int i = 0; i < 8; i++) {
            for (int what = 0; what < 4; what++) {
                due("1 count", f.count(i, what), 0);
            }
            due("1 tray missing, solid", f.solid(0, i), -1);
            due("1 tray missing, point", f.point(i, 0, 0, 0, 0), false);
            due("1 volume", f.volume(i), 0);
            due("1 far", f.far(i, 0), -1);
            due("1 width", f.width(i, 0), -1);
            due("1 middle", f.middle(i, 0, 1), 0);
        }
        due("1 undo", f.undo(), -1);
        due("1 two objects share nothing", new HullFoundry().grow(0, 1, 2, 3), 1);
        due("1 two objects share nothing", f.count(0, 0), 0);
    }

    private static void promise2Tray() {
        HullFoundry f = new HullFoundry();
        for (int t = 0; t < 8; t++) {
            due("2 none", f.tray(t, 0), true);
            due("2 most", f.tray(t, 24), true);
            due("2 most, last one", f.point(t, 23, 1, 1, 1), true);
            due("2 most, none beyond", f.point(t, 24, 1, 1, 1), false);
        }
        due("2 too many", f.tray(0, 25), false);
        due("2 refused: as it was", f.point(0, 23, 1, 1, 1), true);
        due("2 below NONE", f.tray(0, -2), false);
        due("2 no such", f.tray(8, 1), false);
        due("2 no such", f.tray(-1, 1), false);
        due("2 least", f.tray(0, Integer.MIN_VALUE), false);
        due("2 most int", f.tray(Integer.MAX_VALUE, Integer.MAX_VALUE), false);
        due("2 missing", f.tray(0, -1), true);
        due("2 missing again", f.tray(0, -1), true);
        due("2 missing, point", f.point(0, 0, 0, 0, 0), false);
        due("2 missing, solid", f.solid(0, 0), -1);
        due("2 three", f.tray(1, 3), true);
        due("2 three at 0 0 0", f.solid(1, 1), 1);
        due("2 at 0 0 0, x", f.corner(1, 0, 0), 0);
        due("2 at 0 0 0, y", f.corner(1, 0, 1), 0);
        due("2 at 0 0 0, z", f.corner(1, 0, 2), 0);
        f.point(1, 0, 5, 5, 5);
        due("2 made again", f.tray(1, 3), true);
        due("2 made again: all 0 0 0", f.solid(1, 1), 1);
        due("2 made again: all 0 0 0", f.corner(1, 0, 0), 0);
    }

    private static void promise3Point() {
        HullFoundry f = new HullFoundry();
        f.tray(3, 2);
        int[][] wrong = {{101, 0, 0}, {-101, 0, 0}, {0, 101, 0}, {0, -101, 0}, {0, 0, 101}, {0, 0, -101},
            {Integer.MIN_VALUE, 0, 0}, {0, Integer.MAX_VALUE, 0}};
        due("3 farthest", f.point(3, 0, 100, -100, 100), true);
        for (int[] p : wrong) {
            due("3 no POINT", f.point(3, 0, p[0], p[1], p[2]), false);
        }
        due("3 k below", f.point(3, -1, 0, 0, 0), false);
        due("3 k beyond", f.point(3, 2, 0, 0, 0), false);
        due("3 no such tray", f.point(8, 0, 0, 0, 0), false);
        due("3 no such tray", f.point(-1, 0, 0, 0, 0), false);
        due("3 missing tray", f.point(2, 0, 0, 0, 0), false);
        due("3 second", f.point(3, 1, -100, 100, -100), true);
        due("3 a line", f.solid(0, 3), 2);
        int[] numbers = {-100, 100, -100, 100, -100, 100};
        for (int i = 0; i < 6; i++) {
            due("3 as told", f.corner(0, i / 3, i % 3), numbers[i]);
        }
        f.point(3, 1, 0, 0, 0);
        due("3 a SOLID does not follow its TRAY", f.corner(0, 0, 0), -100);
        f.tray(4, 0);
        due("3 none in it", f.point(4, 0, 0, 0, 0), false);
    }

    private static void promise4Solid() {
        HullFoundry f = new HullFoundry();
        due("4 one, told often", Check.make(f, 0, 0, 3, 3, 3, 3, 3, 3, 3, 3, 3), 1);
        due("4 a line", Check.make(f, 1, 1, 0, 0, 0, 4, -2, 6, 2, -1, 3, 2, -1, 3), 2);
        due("4 a plane", Check.make(f, 2, 2, 1, 0, 0, 0, 1, 0, 0, 0, 1, 1, 1, -1), 3);
        due("4 others", Check.make(f, 3, 3, 0, 0, 0, 1, 0, 0, 0, 1, 0, 0, 0, 1), 4);
        due("4 nothing", Check.make(f, 3, 3), 0);
        due("4 nothing, count", f.count(3, 1), 0);
        due("4 farthest", Check.make(f, 7, 7, Rows.box(-100, -100, -100, 200)), 4);
        due("4 farthest, volume", f.volume(7), 48000000);
        due("4 no such SOLID", f.solid(8, 0), -1);
        due("4 no such SOLID", f.solid(-1, 0), -1);
        due("4 no such TRAY", f.solid(0, 8), -1);
        due("4 no such TRAY", f.solid(0, -1), -1);
        due("4 missing", f.solid(7, 4), -1);
        due("4 refused: as it was", f.count(7, 1), 8);
        due("4 refused: no change", f.undo(), 5);
        due("4 inner ones are no CORNERS",
            Check.make(f, 0, 0, 0, 0, 0, 9, 0, 0, 0, 9, 0, 0, 0, 9, 1, 1, 1, 3, 3, 3, 0, 4, 0, 3, 3, 0), 4);
        due("4 inner ones are no CORNERS", f.count(0, 1), 4);
    }

    private static void promise5Grow() {
        HullFoundry f = new HullFoundry();
        due("5 one", f.grow(0, 0, 0, 0), 1);
        due("5 again", f.grow(0, 0, 0, 0), 1);
        due("5 line", f.grow(0, 4, 0, 0), 2);
        due("5 longer", f.grow(0, 8, 0, 0), 2);
        due("5 longer: the old end is no CORNER", f.count(0, 1), 2);
        due("5 plane", f.grow(0, 0, 8, 0), 3);
        due("5 on a side", f.grow(0, 4, 4, 0), 3);
        due("5 on a side", f.count(0, 1), 3);
        due("5 others", f.grow(0, 0, 0, 8), 4);
        due("5 within", f.grow(0, 1, 1, 1), 4);
        due("5 a CORNER goes", f.grow(0, -2, -2, -2), 4);
        due("5 a CORNER goes", f.count(0, 1), 4);
        due("5 no such", f.grow(8, 0, 0, 0), -1);
        due("5 no such", f.grow(-1, 0, 0, 0), -1);
        due("5 no POINT", f.grow(0, 101, 0, 0), -1);
        due("5 no POINT", f.grow(0, 0, -101, 0), -1);
        due("5 no POINT", f.grow(0, 0, 0, Integer.MIN_VALUE), -1);
        due("5 undo", f.undo(), 7);
        due("5 undo", f.undo(), 6);
        due("5 taken back", f.corner(0, 0, 0), 0);
        Check.make(f, 1, Rows.prism());
        due("5 24", f.count(1, 1), 24);
        long volume = f.volume(1);
        due("5 25", f.grow(1, 0, -1, 3), -2);
        due("5 refused: as it was", f.volume(1), volume);
        due("5 refused: 24", f.count(1, 1), 24);
        due("5 refused is no change", f.undo(), 6);
        due("5 the SOLID before", f.count(1, 1), 0);
        due("5 again", Check.make(f, 1, Rows.prism()), 4);
        due("5 on the bounds", f.grow(1, 0, 20, 7), 4);
    }

    private static void promise6Count() {
        HullFoundry f = new HullFoundry();
        int[][] kinds = {{}, {1, 2, 3}, {1, 2, 3, 4, 5, 6}, {0, 0, 0, 1, 0, 0, 0, 1, 0}, Rows.box(0, 0, 0, 3)};
        int[][] counts = {{0, 0, 0, 0}, {1, 1, 0, 0}, {2, 2, 1, 0}, {3, 3, 3, 2}, {4, 8, 12, 6}};
        for (int kind = 0; kind < 5; kind++) {
            Check.make(f, kind, kinds[kind]);
            for (int what = 0; what < 4; what++) {
                due("6 kind " + kind + " what " + what, f.count(kind, what), counts[kind][what]);
            }
            due("6 others", f.count(kind, 4), -1);
            due("6 others", f.count(kind, -1), -1);
        }
        due("6 no such", f.count(8, 0), -1);
        due("6 no such", f.count(-1, 0), -1);
        Check.make(f, 5, Rows.prism());
        int[] prism = {4, 24, 36, 14};
        for (int what = 0; what < 4; what++) {
            due("6 prism", f.count(5, what), prism[what]);
        }
    }

    private static void promise7Corner() {
        HullFoundry f = new HullFoundry();
        Check.make(f, 2, 0, 5, -3, 1, -5, 9, 9, 5, -4, 100, -5, 9, -100, 0, 0, 0);
        int[] order = {-5, 9, -100, -5, 9, 9, 0, 0, 0, 5, -4, 100, 5, -3, 1};
        for (int i = 0; i < order.length; i++) {
            due("7 in order " + i, f.corner(2, i / 3, i % 3), order[i]);
        }
        due("7 beyond", f.corner(2, 5, 0), -1000);
        due("7 below", f.corner(2, -1, 0), -1000);
        due("7 axis", f.corner(2, 0, 3), -1000);
        due("7 axis", f.corner(2, 0, -1), -1000);
        due("7 no such", f.corner(8, 0, 0), -1000);
        due("7 no such", f.corner(-1, 0, 0), -1000);
        due("7 KIND 0", f.corner(0, 0, 0), -1000);
    }

    private static void promise8Edge() {
        HullFoundry f = new HullFoundry();
        Check.make(f, 0, 0, 0, 0, 0, 1, 0, 0, 0, 1, 0, 0, 0, 1);
        // CORNERS: 0 0 0, 0 0 1, 0 1 0, 1 0 0; FACES: -x, -y, -z, all
        int[][] edges = {{0, 1, 0, 1}, {0, 2, 0, 2}, {0, 3, 1, 2}, {1, 2, 0, 3}, {1, 3, 1, 3}, {2, 3, 2, 3}};
        for (int k = 0; k < 6; k++) {
            for (int what = 0; what < 4; what++) {
                due("8 edge " + k, f.edge(0, k, what), edges[k][what]);
            }
        }
        due("8 beyond", f.edge(0, 6, 0), -1);
        due("8 below", f.edge(0, -1, 0), -1);
        due("8 what", f.edge(0, 0, 4), -1);
        due("8 what", f.edge(0, 0, -1), -1);
        due("8 no such", f.edge(8, 0, 0), -1);
        due("8 no such", f.edge(-1, 0, 0), -1);
        Check.make(f, 1, 1, 9, 9, 9, 0, 0, 0);
        int[] line = {0, 1, -1, -1};
        for (int what = 0; what < 4; what++) {
            due("8 line", f.edge(1, 0, what), line[what]);
        }
        due("8 line has one", f.edge(1, 1, 0), -1);
        Check.make(f, 2, 2, 0, 0, 0, 0, 2, 0, 2, 0, 0, 2, 2, 0);
        int[][] square = {{0, 1}, {0, 2}, {1, 3}, {2, 3}};
        for (int k = 0; k < 4; k++) {
            due("8 square", f.edge(2, k, 0), square[k][0]);
            due("8 square", f.edge(2, k, 1), square[k][1]);
            due("8 square", f.edge(2, k, 2), 0);
            due("8 square", f.edge(2, k, 3), 1);
        }
        due("8 one POINT", Check.make(f, 3, 3, 1, 1, 1), 1);
        due("8 one POINT has none", f.edge(3, 0, 0), -1);
    }

    private static void promise9Face() {
        HullFoundry f = new HullFoundry();
        Check.make(f, 0, Rows.box(1, 1, 1, 2));
        // CORNERS by bits x y z; each RING from its first CORNER, against the clock from outside
        long[][] box = {
            {-1, 0, 0, -1, 4, 8, 0, 1, 3, 2}, {0, -1, 0, -1, 4, 8, 0, 4, 5, 1}, {0, 0, -1, -1, 4, 8, 0, 2, 6, 4},
            {0, 0, 1, 3, 4, 8, 1, 5, 7, 3}, {0, 1, 0, 3, 4, 8, 2, 3, 7, 6}, {1, 0, 0, 3, 4, 8, 4, 6, 7, 5}};
        for (int k = 0; k < 6; k++) {
            for (int what = 0; what < 10; what++) {
                due("9 box face " + k + " what " + what, f.face(0, k, what), box[k][what]);
            }
            due("9 ring's end", f.face(0, k, 10), NO_FACE);
        }
        due("9 beyond", f.face(0, 6, 0), NO_FACE);
        due("9 below", f.face(0, -1, 0), NO_FACE);
        due("9 what", f.face(0, 0, -1), NO_FACE);
        due("9 what", f.face(0, 0, Integer.MAX_VALUE), NO_FACE);
        due("9 what", f.face(0, 0, Integer.MIN_VALUE), NO_FACE);
        due("9 no such", f.face(8, 0, 0), NO_FACE);
        due("9 no such", f.face(-1, 0, 0), NO_FACE);
        Check.make(f, 1, 1, 6, 0, 0, 0, 4, 0, 0, 0, 2);
        // 2 x + 3 y + 6 z = 12; across 12 8 24 twice the AREA is 4 times the root of 4 + 9 + 36
        long[][] leaf = {{-2, -3, -6, -12, 3, 4, 0, 1, 2}, {2, 3, 6, 12, 3, 4, 0, 2, 1}};
        for (int k = 0; k < 2; k++) {
            for (int what = 0; what < 9; what++) {
                due("9 leaf face " + k + " what " + what, f.face(1, k, what), leaf[k][what]);
            }
        }
        due("9 leaf", f.face(1, 2, 0), NO_FACE);
        Check.make(f, 2, 2, 0, 0, 0, 1, 1, 1);
        due("9 a line has none", f.face(2, 0, 0), NO_FACE);
        due("9 nothing has none", f.face(3, 0, 0), NO_FACE);
    }

    public static void main(String[] args) {
        promise1NewObject();
        promise2Tray();
        promise3Point();
        promise4Solid();
        promise5Grow();
        promise6Count();
        promise7Corner();
        promise8Edge();
        promise9Face();
        Check.end();
    }
}
