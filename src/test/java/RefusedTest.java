/**
 * Every call that is refused, in every way that the document names: it answers as it must and leaves all as it was, the
 * changes that undo() takes back, too. And no question changes anything.
 */
public final class RefusedTest {
    private static final int LEAST = Integer.MIN_VALUE;
    private static final int MOST = Integer.MAX_VALUE;
    private static final int[] NO_POINTS = {-101, 101, LEAST, MOST};
    /** Four times each of these is small again, or nearly so. */
    private static final int[] WRAPPED = {1 << 30, (1 << 30) + 1, -(1 << 30), LEAST, LEAST + 1, MOST};
    private static final int[] KINDS_0_TO_3 = {1, 7, 4, 5};

    private static int[] numbersOf(String[] parts) {
        int[] v = new int[5];
        for (int k = 1; k < parts.length; k++) {
            v[k - 1] = Integer.parseInt(parts[k]);
        }
        return v;
    }

    /** A call that is done as it stands is refused, with that answer, once its number i is one of the wrong ones. */
    private static void refuse(long answer, String call, int i, int... wrong) {
        String[] parts = call.split(" ");
        int[] v = numbersOf(parts);
        Check.due(call + " is refused", Twin.answer(parts[0], v) == answer, false);
        for (int number : wrong) {
            v[i] = number;
            Check.due(call + " with number " + i + " being " + number, Twin.answerOfIdle(parts[0], v), answer);
        }
    }

    private static void refuseSlots(long answer, String call, int... places) {
        for (int i : places) {
            refuse(answer, call, i, Check.NO_SLOTS);
        }
    }

    private static void tray() {
        refuseSlots(0, "tray 0 5", 0);
        refuse(0, "tray 0 5", 1, -2, 25, LEAST, MOST);
    }

    private static void point() {
        refuseSlots(0, "point 0 3 9 9 9", 0);
        int[] missing = {3, 6};
        refuse(0, "point 0 0 9 9 9", 0, missing);
        int empty = 1;
        refuse(0, "point 0 0 9 9 9", 0, empty);
        refuse(0, "point 0 3 9 9 9", 1, -1, 4, LEAST, MOST);
        refuse(0, "point 2 23 9 9 9", 1, -1, 24, LEAST, MOST);
        for (int i = 2; i < 5; i++) {
            refuse(0, "point 0 3 9 9 9", i, NO_POINTS);
        }
    }

    private static void solid() {
        refuseSlots(-1, "solid 0 4", 0, 1);
        int[] missing = {3, 6};
        refuse(-1, "solid 0 4", 1, missing);
    }

    private static void grow() {
        refuseSlots(-1, "grow 0 9 9 9", 0);
        for (int i = 1; i < 4; i++) {
            refuse(-1, "grow 0 9 9 9", i, NO_POINTS);
            refuse(-1, "grow 1 9 9 9", i, NO_POINTS);
            refuse(-1, "grow 2 0 10 3", i, NO_POINTS);
        }
        refuse(-2, "grow 2 0 10 3", 2, -1);
    }

    private static void parts() {
        refuseSlots(-1, "count 0 3", 0);
        refuse(-1, "count 0 3", 1, -1, 4, LEAST, MOST);
        refuseSlots(-1000, "corner 0 3 2", 0);
        refuse(-1000, "corner 0 0 0", 0, 1);
        refuse(-1000, "corner 0 3 2", 1, -1, 4, LEAST, MOST);
        refuse(-1000, "corner 2 23 2", 1, 24);
        refuse(-1000, "corner 0 3 2", 2, -1, 3, LEAST, MOST);
        refuseSlots(-1, "edge 0 5 3", 0);
        refuse(-1, "edge 0 0 0", 0, 1, 7);
        refuse(-1, "edge 0 5 3", 1, -1, 6);
        refuse(-1, "edge 0 5 3", 1, WRAPPED);
        refuse(-1, "edge 4 0 1", 1, -1, 1);
        refuse(-1, "edge 0 5 3", 2, -1, 4, LEAST, MOST);
    }

    private static void face() {
        long none = -2000000000L;
        refuseSlots(none, "face 0 3 8", 0);
        refuse(none, "face 0 0 0", 0, 1, 7, 4);
        refuse(none, "face 0 3 8", 1, -1, 4);
        refuse(none, "face 0 3 8", 1, WRAPPED);
        refuse(none, "face 5 1 8", 1, -1, 2);
        refuse(none, "face 0 3 8", 2, -1, 9, LEAST, LEAST + 5, MOST);
    }

    private static void inAndSide() {
        refuseSlots(-1, "in 0 1 2 3 1", 0);
        for (int solid : new int[] {0, 1}) {
            for (int i = 1; i < 4; i++) {
                refuse(-1, "in " + solid + " 1 2 3 1", i, -1000001, 1000001, LEAST, MOST);
                refuse(-1, "side " + solid + " 1 2 3 4", i, -1001, 1001, LEAST, MOST);
            }
            refuse(-1, "in " + solid + " 1 2 3 1", 4, -1, 0, 1001, LEAST, MOST);
            refuse(-1, "side " + solid + " 1 2 3 4", 4, -1000001, 1000001, LEAST, MOST);
            refuse(-1, "side " + solid + " 1 0 0 0", 1, 0);
            refuse(-1, "side " + solid + " 0 1 0 0", 2, 0);
            refuse(-1, "side " + solid + " 0 0 1 0", 3, 0);
        }
        refuseSlots(-1, "side 0 1 2 3 4", 0);
    }

    private static void measures() {
        refuseSlots(-1, "volume 0", 0);
        refuseSlots(0, "middle 0 2 1", 0);
        refuse(0, "middle 0 2 1", 0, KINDS_0_TO_3);
        refuse(0, "middle 0 2 1", 1, -1, 3, LEAST, MOST);
        refuse(0, "middle 0 2 1", 2, -1, 2, LEAST, MOST);
        refuseSlots(-1, "far 0 2", 0);
        refuse(-1, "far 0 2", 0, 1, 7);
        refuse(-1, "far 0 2", 1, -1, 3, LEAST, MOST);
        refuseSlots(-1, "width 0 1", 0);
        refuse(-1, "width 0 1", 0, KINDS_0_TO_3);
        refuse(-1, "width 0 1", 1, -1, 2, LEAST, MOST);
    }

    private static void twoSolids() {
        refuseSlots(-1, "sum 0 5 6", 0, 1, 2);
        int tooWide = 4;
        int tooManyCorners = 2;
        for (int to : new int[] {0, 5, 6}) {
            refuse(-2, "sum 0 5 " + to, 1, tooWide, tooManyCorners);
            refuse(-2, "sum 5 0 " + to, 0, tooWide, tooManyCorners);
        }
        refuseSlots(-1, "apart 0 7", 0, 1);
        refuseSlots(-1, "near 0 7 1", 0, 1);
        refuse(-1, "near 0 7 1", 0, 1);
        refuse(-1, "near 0 7 1", 1, 1);
        refuse(-1, "near 0 7 1", 2, -1, 2, LEAST, MOST);
        refuseSlots(-1, "same 0 7", 0, 1);
    }

    /** SOLID 0 reaches from 1 2 3 to 2 3 4. */
    private static void changes() {
        refuseSlots(0, "move 0 1 1 1", 0);
        refuse(0, "move 0 98 97 96", 1, 99, 200, 201, 65536, MOST);
        refuse(0, "move 0 98 97 96", 2, 98, 200, 201, 65536, MOST);
        refuse(0, "move 0 98 97 96", 3, 97, 200, 201, 65536, MOST);
        refuse(0, "move 0 -101 -102 -103", 1, -102, -200, -201, -65536, LEAST);
        refuse(0, "move 0 -101 -102 -103", 2, -103, -200, -201, -65536, LEAST);
        refuse(0, "move 0 -101 -102 -103", 3, -104, -200, -201, -65536, LEAST);
        refuseSlots(0, "mirror 0 3", 0);
        refuse(0, "mirror 0 3", 1, -1, 4, LEAST, MOST);
        refuseSlots(0, "turn 0 2", 0);
        refuse(0, "turn 0 2", 1, -1, 3, LEAST, MOST);
        refuseSlots(0, "copy 0 6", 0, 1);
    }

    private static void undo() {
        HullFoundry f = new HullFoundry();
        Check.due("undo, none done", f.undo(), -1);
        Check.due("undo, none done, again", f.undo(), -1);
        Check.due("a change after that", f.grow(0, 1, 1, 1), 1);
        Check.due("it can be taken back", f.undo(), 0);
        Check.due("undo, none left", f.undo(), -1);
        Check.due("none is brought back", f.count(0, 0), 0);
    }

    private static void questionsChangeNothing() {
        for (int s = 0; s < 8; s++) {
            for (String name : new String[] {"count", "corner", "edge", "face", "in", "side", "volume", "middle", "far",
                "width", "apart", "near", "same"}) {
                Twin.answerOfIdle(name, s, 0, 1, 1, 1);
            }
        }
    }

    public static void main(String[] args) {
        tray();
        point();
        solid();
        grow();
        parts();
        face();
        inAndSide();
        measures();
        twoSolids();
        changes();
        undo();
        questionsChangeNothing();
        Check.end();
    }
}
