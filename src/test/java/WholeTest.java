import java.util.ArrayList;
import java.util.List;

/** SOLIDS whose every CORNER, EDGE and FACE is held against Shape: cases that chance seldom makes. */
public final class WholeTest {
    private static void dueWhole(String what, int... numbers) {
        HullFoundry f = Check.foundryWith(numbers);
        List<long[]> points = new ArrayList<>();
        for (int i = 0; i < numbers.length; i += 3) {
            points.add(new long[] {numbers[i], numbers[i + 1], numbers[i + 2]});
        }
        Shape due = new Shape(points);
        Check.due(what + ": KIND", f.count(0, 0), due.kind);
        Check.due(what + ": CORNERS", f.count(0, 1), due.corners.size());
        Check.due(what + ": EDGES", f.count(0, 2), due.edges.size());
        Check.due(what + ": FACES", f.count(0, 3), due.faces.size());
        for (int k = 0; k < due.corners.size(); k++) {
            for (int axis = 0; axis < 3; axis++) {
                Check.due(what + ": CORNER " + k + " axis " + axis, f.corner(0, k, axis), due.corners.get(k)[axis]);
            }
        }
        for (int k = 0; k < due.edges.size(); k++) {
            for (int part = 0; part < 4; part++) {
                Check.due(what + ": EDGE " + k + " what " + part, f.edge(0, k, part), due.edges.get(k)[part]);
            }
        }
        for (int k = 0; k < due.faces.size(); k++) {
            Check.dueFace(f, what, 0, k, faceRow(due, k));
        }
    }

    private static long[] faceRow(Shape due, int k) {
        List<Integer> ring = due.rings.get(k);
        long[] row = new long[6 + ring.size()];
        System.arraycopy(due.faces.get(k), 0, row, 0, 4);
        row[4] = ring.size();
        row[5] = due.area(k);
        for (int i = 0; i < ring.size(); i++) {
            row[6 + i] = ring.get(i);
        }
        return row;
    }

    /**
     * I: "KINDS: .. 2 in a line, 3 in a plane": every slant that two short ways can span. The fourth POINT is the sum
     * of both, because a figure of three CORNERS is found whole before its plane matters.
     */
    private static void everySlant() {
        for (int code = 0; code < 15625; code++) {
            int[] numbers = new int[12];
            int rest = code;
            for (int i = 3; i < 9; i++) {
                numbers[i] = rest % 5 - 2;
                rest /= 5;
            }
            for (int i = 0; i < 3; i++) {
                numbers[9 + i] = numbers[3 + i] + numbers[6 + i];
            }
            dueWhole("slant " + code, numbers);
        }
    }

    /** I: "At most 24 CORNERS", in an order of finding them in which one replaces 18 triangles at once. */
    private static void manyTrianglesAtOnce() {
        dueWhole("many at once", Rows.BLUNT);
    }

    public static void main(String[] args) {
        everySlant();
        manyTrianglesAtOnce();
        Check.end();
    }
}
