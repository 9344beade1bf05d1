/** Counts answers that are not as due and tells them. */
final class Check {
    /** Numbers that no TRAY and no SOLID bears. */
    static final int[] NO_SLOTS = {-1, 8, Integer.MIN_VALUE, Integer.MAX_VALUE};

    private static int asked = 0;
    private static int wrong = 0;

    private Check() {
    }

    static void due(String what, long got, long want) {
        asked++;
        if (got != want) {
            wrong++;
            System.out.println(what + " answered " + got + ", due is " + want);
        }
    }

    static void due(String what, boolean got, boolean want) {
        due(what, got ? 1 : 0, want ? 1 : 0);
    }

    /** A SOLID has just these CORNERS, three numbers each. */
    static void dueCorners(HullFoundry f, String what, int s, int... numbers) {
        due(what + ": how many CORNERS", f.count(s, 1), numbers.length / 3);
        for (int i = 0; i < numbers.length; i++) {
            due(what + ": CORNER " + i / 3 + " axis " + i % 3, f.corner(s, i / 3, i % 3), numbers[i]);
        }
    }

    /** A FACE has just this a, b, c, d, size of its RING, AREA and RING. */
    static void dueFace(HullFoundry f, String what, int s, int k, long... numbers) {
        for (int i = 0; i < numbers.length; i++) {
            due(what + ": FACE " + k + " what " + i, f.face(s, k, i), numbers[i]);
        }
        due(what + ": FACE " + k + " has no more", f.face(s, k, numbers.length), -2000000000L);
    }

    static void end() {
        System.out.println(asked + " answers, " + wrong + " not as due");
        if (wrong != 0) {
            System.exit(1);
        }
    }

    /** TRAY t with these POINTS, three numbers each, and SOLID s made of them: its KIND. */
    static int make(HullFoundry f, int s, int t, int... numbers) {
        f.tray(t, numbers.length / 3);
        for (int k = 0; k < numbers.length / 3; k++) {
            f.point(t, k, numbers[3 * k], numbers[3 * k + 1], numbers[3 * k + 2]);
        }
        return f.solid(s, t);
    }

    /** The same with TRAY 7. */
    static int make(HullFoundry f, int s, int[] numbers) {
        return make(f, s, 7, numbers);
    }

    /** A new object whose TRAY 0 has these POINTS and whose SOLID 0 is made of them. */
    static HullFoundry foundryWith(int... numbers) {
        HullFoundry f = new HullFoundry();
        make(f, 0, 0, numbers);
        return f;
    }
}
