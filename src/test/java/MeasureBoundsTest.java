/** Term II and promises 10 to 15 at their bounds: each sentence of the document that names one has a method here. */
public final class MeasureBoundsTest {
    private static final int LEAST = Integer.MIN_VALUE;
    private static final int MOST = Integer.MAX_VALUE;
    private static final int FARTHEST = 1000000;

    private static void due(String what, long got, long want) {
        Check.due(what, got, want);
    }

    /** SOLID 0 of KIND 0, 1 of KIND 1 and so on. */
    private static HullFoundry foundryOfKinds() {
        HullFoundry f = new HullFoundry();
        int[][] rows = {{}, {2, -3, 4}, {0, 0, 0, 3, 6, -3}, {4, 0, 0, 0, 4, 0, 0, 0, 4}, Rows.CORNER_PIECE};
        for (int kind = 0; kind < 5; kind++) {
            due("a SOLID of KIND " + kind, Check.make(f, kind, kind, rows[kind]), kind);
        }
        return f;
    }

    // promise 10: "(q 1 .. 1000)"
    private static void inWithLeastAndMostBelow() {
        HullFoundry f = Check.foundryWith(Rows.box(-100, -100, -100, 200));
        due("10 q 1", f.in(0, 100, 100, 100, 1), 1);
        due("10 q 1000", f.in(0, 100000, 100000, 100000, 1000), 1);
        due("10 q 1000, just out", f.in(0, 100001, 0, 0, 1000), 0);
        due("10 q 1000, just within", f.in(0, -99999, 99999, -99999, 1000), 2);
        for (int q : new int[] {0, -1, 1001, LEAST, MOST}) {
            due("10 q " + q, f.in(0, 0, 0, 0, q), -1);
            due("10 KIND 0, q " + q, f.in(1, 0, 0, 0, q), -1);
        }
    }

    // promise 10: "NONE: no such SOLID, q, or a number is beyond -1000000 .. 1000000"
    private static void inWithFarNumbers() {
        HullFoundry f = Check.foundryWith(Rows.box(-100, -100, -100, 200));
        int[] v = new int[3];
        for (int axis = 0; axis < 3; axis++) {
            for (int number : new int[] {-FARTHEST, FARTHEST}) {
                v[axis] = number;
                due("10 axis " + axis + " " + number, f.in(0, v[0], v[1], v[2], 1), 0);
                due("10 axis " + axis + " " + number + ", q 1000", f.in(0, v[0], v[1], v[2], 1000), 0);
            }
            for (int number : new int[] {-FARTHEST - 1, FARTHEST + 1, LEAST, MOST}) {
                v[axis] = number;
                due("10 axis " + axis + " " + number, f.in(0, v[0], v[1], v[2], 1), -1);
                due("10 KIND 0, axis " + axis + " " + number, f.in(1, v[0], v[1], v[2], 1), -1);
            }
            v[axis] = 0;
        }
        due("10 all three farthest", f.in(0, FARTHEST, -FARTHEST, FARTHEST, 1), 0);
        for (int s : Check.NO_SLOTS) {
            due("10 SOLID " + s, f.in(s, 0, 0, 0, 1), -1);
        }
    }

    // promise 10: "0 no"
    private static void inNo() {
        HullFoundry f = foundryOfKinds();
        due("10 nothing in KIND 0", f.in(0, 0, 0, 0, 1), 0);
        due("10 beside KIND 1", f.in(1, 2001, -3000, 4000, 1000), 0);
        due("10 past the end of KIND 2", f.in(2, 3001, 6002, -3001, 1000), 0);
        due("10 before the end of KIND 2", f.in(2, -1, -2, 1, 1000), 0);
        due("10 beside KIND 2", f.in(2, 1000, 2000, -999, 1000), 0);
        due("10 level with KIND 3, out", f.in(3, 2001, 2000, -1, 1000), 0);
        due("10 off KIND 3", f.in(3, 1333, 1333, 1333, 1000), 0);
        due("10 off KIND 3, the other side", f.in(3, 1334, 1334, 1334, 1000), 0);
        due("10 out of KIND 4", f.in(4, 1, 1, 1, 2), 0);
    }

    // promise 10: "1 on its bounds (of KINDS 1 to 3: in it)"
    private static void inOn() {
        HullFoundry f = foundryOfKinds();
        due("10 KIND 1", f.in(1, 2000, -3000, 4000, 1000), 1);
        due("10 KIND 2, one end", f.in(2, 0, 0, 0, 1000), 1);
        due("10 KIND 2, other end", f.in(2, 3000, 6000, -3000, 1000), 1);
        due("10 KIND 2, between", f.in(2, 1, 2, -1, 1000), 1);
        due("10 KIND 3, CORNER", f.in(3, 4, 0, 0, 1), 1);
        due("10 KIND 3, side", f.in(3, 3999, 1, 0, 1000), 1);
        due("10 KIND 3, not on a side", f.in(3, 4, 4, 4, 3), 1);
        due("10 KIND 4, CORNER", f.in(4, 0, 0, 0, 1), 1);
        due("10 KIND 4, EDGE", f.in(4, 1, 0, 0, 1000), 1);
        due("10 KIND 4, FACE", f.in(4, 1, 1, 0, 1000), 1);
        due("10 KIND 4, slant FACE", f.in(4, 1, 1, 1, 3), 1);
    }

    private static int inWithStep(HullFoundry f, int[] v, int axis, int step) {
        int[] w = v.clone();
        w[axis] += step;
        return f.in(0, w[0], w[1], w[2], 1000);
    }

    // the same of KIND 2, along each axis and off it by a thousandth along the others
    private static void inLineAlongEachAxis() {
        for (int axis = 0; axis < 3; axis++) {
            int[] ends = {-7, 8, 9, -7, 8, 9};
            ends[3 + axis] += 10;
            HullFoundry f = Check.foundryWith(ends);
            int[] half = {-7000, 8000, 9000};
            half[axis] += 5000;
            for (int sign : new int[] {-1, 1}) {
                due("10 one end, axis " + axis, inWithStep(f, half, axis, 5000 * sign), 1);
                due("10 past the end, axis " + axis, inWithStep(f, half, axis, 5001 * sign), 0);
                due("10 beside, axis " + axis, inWithStep(f, half, (axis + 1) % 3, sign), 0);
                due("10 beside, axis " + axis, inWithStep(f, half, (axis + 2) % 3, sign), 0);
            }
        }
    }

    /** The sum of a side's two ends, counted so often, and of the CORNER across from it, of a row of three. */
    private static int[] mix(int[] row, int side, int often, int oftenAcross) {
        int[] v = new int[3];
        for (int axis = 0; axis < 3; axis++) {
            int ends = row[3 * side + axis] + row[3 * ((side + 1) % 3) + axis];
            v[axis] = often * ends + oftenAcross * row[3 * ((side + 2) % 3) + axis];
        }
        return v;
    }

    // the same of KIND 3, across each side of slanted figures
    private static void inFigureAcrossEachSide() {
        int[][] figures = {{-100, -99, -100, 100, 100, -100, 99, -100, 100}, {1, 2, 3, 7, -5, 4, -2, 9, -8},
            {10, 10, 0, 20, 10, 0, 10, 20, 0}, {5, 0, 5, 5, 9, 5, 5, 0, 9}, {0, 6, 1, 9, 6, 0, 0, 6, 9}};
        for (int[] row : figures) {
            HullFoundry f = Check.foundryWith(row);
            for (int i = 0; i < 3; i++) {
                int[] on = mix(row, i, 500, 0);
                int[] out = mix(row, i, 501, -2);
                int[] in = mix(row, i, 499, 2);
                due("10 on side " + i, f.in(0, on[0], on[1], on[2], 1000), 1);
                due("10 just out of side " + i, f.in(0, out[0], out[1], out[2], 1000), 0);
                due("10 just in from side " + i, f.in(0, in[0], in[1], in[2], 1000), 1);
                due("10 off the plane", f.in(0, in[0] + 1, in[1] + 1, in[2] + 1, 1000), 0);
            }
        }
    }

    // promise 10: "2 within (of KIND 4)"
    private static void inWithin() {
        HullFoundry f = foundryOfKinds();
        due("10 just within", f.in(4, 1, 1, 1, 1000), 2);
        due("10 just within the slant FACE", f.in(4, 333, 333, 333, 1000), 2);
        due("10 just out of the slant FACE", f.in(4, 334, 333, 334, 1000), 0);
        Check.make(f, 5, 5, Rows.THIN_PIECE);
        due("10 within a thin one", f.in(5, 0, -49500, -49750, 1000), 2);
        due("10 a thousandth beside", f.in(5, 1, -49500, -49750, 1000), 0);
        due("10 a thousandth beside", f.in(5, 0, -49501, -49750, 1000), 0);
        due("10 a thousandth beside", f.in(5, 0, -49500, -49749, 1000), 0);
        Check.make(f, 6, 6, Rows.BALL);
        due("10 within most FACES", f.in(6, 0, 0, 0, 1), 2);
        due("10 on one of most FACES", f.in(6, 29 - 36 + 43, 33 + 56, 96 + 88 + 71, 3), 1);
    }

    // promise 11: "(each -1000 .. 1000, d -1000000 .. 1000000; a, b, c not all 0)"
    private static void sideWithLeastAndMost() {
        HullFoundry f = Check.foundryWith(100, -100, 100);
        due("11 most", f.side(0, 1000, -1000, 1000, 300000), 2);
        due("11 most, just above", f.side(0, 1000, -1000, 1000, 299999), 4);
        due("11 most, just below", f.side(0, 1000, -1000, 1000, 300001), 1);
        due("11 least", f.side(0, -1000, 1000, -1000, -300000), 2);
        due("11 d most", f.side(0, 1000, -1000, 1000, 1000000), 1);
        due("11 d least", f.side(0, -1000, 1000, -1000, -1000000), 4);
        due("11 a alone", f.side(0, 1, 0, 0, 100), 2);
        due("11 b alone", f.side(0, 0, 1, 0, -100), 2);
        due("11 c alone", f.side(0, 0, 0, -1, -100), 2);
    }

    // promise 11: "NONE when that can't be"
    private static void sideThatCannotBe() {
        HullFoundry f = Check.foundryWith(100, -100, 100);
        for (int s : new int[] {0, 1}) {
            for (int number : new int[] {-1001, 1001, LEAST, MOST}) {
                due("11 a " + number, f.side(s, number, 1, 1, 0), -1);
                due("11 b " + number, f.side(s, 1, number, 1, 0), -1);
                due("11 c " + number, f.side(s, 1, 1, number, 0), -1);
            }
            for (int number : new int[] {-1000001, 1000001, LEAST, MOST}) {
                due("11 d " + number, f.side(s, 1, 1, 1, number), -1);
            }
            due("11 a, b, c all 0", f.side(s, 0, 0, 0, 0), -1);
            due("11 a, b, c all 0, d not", f.side(s, 0, 0, 0, 1), -1);
        }
        for (int s : Check.NO_SLOTS) {
            due("11 SOLID " + s, f.side(s, 1, 0, 0, 0), -1);
        }
    }

    // promise 11: "1 some are below d, 2 some on it, 4 some above, added up"
    private static void sideAddedUp() {
        HullFoundry f = Check.foundryWith(Rows.box(-1, -1, -1, 2));
        due("11 none at all", f.side(1, 1, 0, 0, 0), 0);
        due("11 below", f.side(0, 1, 0, 0, 2), 1);
        due("11 on, one POINT", f.grow(2, 7, 7, 7) + f.side(2, 1, 0, 0, 7), 1 + 2);
        due("11 below and on", f.side(0, 1, 0, 0, 1), 3);
        due("11 above", f.side(0, 1, 0, 0, -2), 4);
        due("11 below and above", f.side(0, 1, 0, 0, 0), 5);
        due("11 on and above", f.side(0, 1, 0, 0, -1), 6);
        due("11 all three", f.side(0, 1, 1, 0, 0), 7);
    }

    // promise 12: "The VOLUME, six times; 0 of KINDS 0 to 3; NONE when there is no such SOLID"
    private static void volumeLeastAndMost() {
        HullFoundry f = foundryOfKinds();
        for (int kind = 0; kind < 4; kind++) {
            due("12 KIND " + kind, f.volume(kind), 0);
        }
        due("12 least", f.volume(4), 1);
        Check.make(f, 5, 5, Rows.THIN_PIECE);
        due("12 least, though wide", f.volume(5), 1);
        Check.make(f, 6, 6, Rows.BALL);
        due("12 of most FACES", f.volume(6), 19444924);
        Check.make(f, 7, 7, Rows.box(-100, -100, -100, 200));
        due("12 most", f.volume(7), 48000000);
        for (int s : Check.NO_SLOTS) {
            due("12 SOLID " + s, f.volume(s), -1);
        }
    }

    private static void dueMiddle(HullFoundry f, String what, int s, long... parts) {
        for (int i = 0; i < 6; i++) {
            due(what + ": axis " + i / 2 + " what " + i % 2, f.middle(s, i / 2, i % 2), parts[i]);
        }
    }

    // II: "the middle of mass of KIND 4, fractions in lowest terms, above 0 below the line"
    private static void middleInLowestTerms() {
        HullFoundry f = Check.foundryWith(Rows.box(-100, -100, -100, 200));
        dueMiddle(f, "II 0 is 0 / 1", 0, 0, 1, 0, 1, 0, 1);
        Check.make(f, 1, 1, Rows.THIN_PIECE);
        dueMiddle(f, "II below 0", 1, 0, 1, -99, 2, -199, 4);
        Check.make(f, 2, 2, Rows.BALL);
        dueMiddle(f, "II large numbers", 2, 6639053, 77779696, 1481681, 38889848, 322037, 38889848);
        Check.make(f, 3, 3, Rows.prism());
        dueMiddle(f, "II prism", 3, -1, 2, 277, 15, 7, 2);
        Check.make(f, 4, 4, Rows.box(99, 99, 99, 1));
        dueMiddle(f, "II farthest", 4, 199, 2, 199, 2, 199, 2);
        Check.make(f, 5, 5, Rows.box(-100, -100, -100, 1));
        dueMiddle(f, "II farthest below 0", 5, -199, 2, -199, 2, -199, 2);
    }

    // promise 13: "0 when there is none such"
    private static void middleThatIsNone() {
        HullFoundry f = foundryOfKinds();
        for (int kind = 0; kind < 4; kind++) {
            dueMiddle(f, "13 KIND " + kind, kind, 0, 0, 0, 0, 0, 0);
        }
        dueMiddle(f, "13 KIND 4", 4, 1, 4, 1, 4, 1, 4);
        for (int s : Check.NO_SLOTS) {
            due("13 SOLID " + s, f.middle(s, 0, 1), 0);
        }
        for (int axis : new int[] {-1, 3, LEAST, MOST}) {
            due("13 axis " + axis, f.middle(4, axis, 1), 0);
        }
        for (int what : new int[] {-1, 2, LEAST, MOST}) {
            due("13 what " + what, f.middle(4, 0, what), 0);
        }
    }

    private static void dueFar(HullFoundry f, String what, int s, int... parts) {
        for (int i = 0; i < 3; i++) {
            due(what + ": what " + i, f.far(s, i), parts[i]);
        }
    }

    // promise 14: "The two CORNERS farthest apart ..: 0, 1 their numbers, 2 the square"
    private static void farLeastAndMost() {
        HullFoundry f = Check.foundryWith(0, 0, 0, 0, 0, 1);
        dueFar(f, "14 least", 0, 0, 1, 1);
        Check.make(f, 1, 1, -100, -100, -100, 100, 100, 100);
        dueFar(f, "14 most", 1, 0, 1, 120000);
        Check.make(f, 2, 2, Rows.BALL);
        dueFar(f, "14 of most CORNERS", 2, 5, 17, 40008);
        Check.make(f, 3, 3, Rows.THIN_PIECE);
        dueFar(f, "14 the last two", 3, 2, 3, 80001);
    }

    // promise 14: "(of several the lesser one first, then the other one)"
    private static void farOfSeveral() {
        HullFoundry f = Check.foundryWith(Rows.EVEN_PIECE);
        dueFar(f, "14 all six alike", 0, 0, 1, 2);
        Check.make(f, 1, 1, Rows.box(-100, -100, -100, 200));
        dueFar(f, "14 four alike", 1, 0, 7, 120000);
        Check.make(f, 2, 2, -1, 0, 0, 9, -3, 0, 9, 3, 0);
        dueFar(f, "14 one from two: the lesser other one", 2, 0, 1, 109);
        Check.make(f, 3, 3, -9, -3, 0, -9, 3, 0, 1, 0, 0);
        dueFar(f, "14 two from one: the lesser one", 3, 0, 2, 109);
        Check.make(f, 4, 4, 0, 0, 0, 1, -9, 0, 2, -9, 0, 1, 9, 0, 2, 9, 0);
        dueFar(f, "14 two slants, none with CORNER 0", 4, 1, 4, 325);
    }

    // promise 14: "NONE without two"
    private static void farThatIsNone() {
        HullFoundry f = foundryOfKinds();
        for (int what = 0; what < 3; what++) {
            due("14 KIND 0", f.far(0, what), -1);
            due("14 KIND 1", f.far(1, what), -1);
            due("14 KIND 2", f.far(2, what) >= 0 ? 1 : 0, 1);
        }
        for (int s : Check.NO_SLOTS) {
            due("14 SOLID " + s, f.far(s, 0), -1);
        }
        for (int what : new int[] {-1, 3, LEAST, MOST}) {
            due("14 what " + what, f.far(4, what), -1);
        }
    }

    private static void dueWidth(HullFoundry f, String what, int s, long above, long below) {
        due(what + ": above", f.width(s, 0), above);
        due(what + ": below", f.width(s, 1), below);
    }

    // II: "of all pairs of planes side by side between which the SOLID lies, the least square of their distance"
    private static void widthLeastAndMost() {
        HullFoundry f = Check.foundryWith(Rows.THIN_PIECE);
        dueWidth(f, "II least", 0, 1, 4768159601L);
        Check.make(f, 1, 1, Rows.box(-100, -100, -100, 200));
        dueWidth(f, "II most", 1, 40000, 1);
        Check.make(f, 2, 2, Rows.BALL);
        dueWidth(f, "II of most EDGES", 2, 68626965027L, 2221145);
        Check.make(f, 3, 3, -100, -100, -99, 100, 99, -100, 99, -100, 100, -100, 100, 98);
        dueWidth(f, "II large numbers", 3, 249677826632809L, 6336717206L);
    }

    // the same, where but one FACE or but two EDGES give it
    private static void widthOfFirstAndLastParts() {
        HullFoundry f = Check.foundryWith(Rows.CORNER_PIECE);
        dueWidth(f, "II the last FACE", 0, 1, 3);
        f.mirror(0, 3);
        dueWidth(f, "II the first FACE", 0, 1, 3);
        Check.make(f, 1, 1, 0, 0, 0, 2, 5, 0, 2, 0, 7, 0, 5, 7);
        dueWidth(f, "II the first EDGE and the last", 1, 4, 1);
        Check.make(f, 2, 2, 0, 0, 0, 5, 2, 0, 5, 0, 7, 0, 2, 7);
        dueWidth(f, "II the second EDGE and the fifth", 2, 4, 1);
        Check.make(f, 3, 3, 0, 0, 0, 5, 7, 0, 5, 0, 2, 0, 7, 2);
        dueWidth(f, "II the third EDGE and the fourth", 3, 4, 1);
    }

    // II: "(a fraction in lowest terms)"
    private static void widthInLowestTerms() {
        HullFoundry f = Check.foundryWith(Rows.CORNER_PIECE);
        dueWidth(f, "II 1 / 3", 0, 1, 3);
        Check.make(f, 1, 1, 0, 0, 0, 3, 0, 0, 0, 3, 0, 0, 0, 3);
        dueWidth(f, "II 9 / 3 is 3", 1, 3, 1);
        Check.make(f, 2, 2, 0, 0, 0, 100, 0, 0, 0, 100, 0, 0, 0, 100);
        dueWidth(f, "II 10000 / 3", 2, 10000, 3);
        Check.make(f, 3, 3, Rows.EVEN_PIECE);
        dueWidth(f, "II between two EDGES", 3, 1, 1);
        Check.make(f, 4, 4, Rows.prism());
        dueWidth(f, "II prism", 4, 49, 1);
    }

    // promise 15: "NONE: not KIND 4, or no such SOLID"
    private static void widthThatIsNone() {
        HullFoundry f = foundryOfKinds();
        for (int kind = 0; kind < 4; kind++) {
            dueWidth(f, "15 KIND " + kind, kind, -1, -1);
        }
        for (int s : Check.NO_SLOTS) {
            dueWidth(f, "15 SOLID " + s, s, -1, -1);
        }
        for (int what : new int[] {-1, 2, LEAST, MOST}) {
            due("15 what " + what, f.width(4, what), -1);
        }
        dueWidth(f, "15 KIND 4", 4, 1, 3);
        Check.make(f, 4, 3);
        dueWidth(f, "15 not what was there before", 4, -1, -1);
        f.undo();
        dueWidth(f, "15 there again", 4, 1, 3);
    }

    public static void main(String[] args) {
        inWithLeastAndMostBelow();
        inWithFarNumbers();
        inNo();
        inOn();
        inLineAlongEachAxis();
        inFigureAcrossEachSide();
        inWithin();
        sideWithLeastAndMost();
        sideThatCannotBe();
        sideAddedUp();
        volumeLeastAndMost();
        middleInLowestTerms();
        middleThatIsNone();
        farLeastAndMost();
        farOfSeveral();
        farThatIsNone();
        widthLeastAndMost();
        widthOfFirstAndLastParts();
        widthInLowestTerms();
        widthThatIsNone();
        Check.end();
    }
}
