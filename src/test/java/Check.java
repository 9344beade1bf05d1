/** Counts answers that are not as due and tells them. */
final class Check {
    private static int asked = 0;
    private static int wrong = 0;

    private Check() {
    }

    static void due(String what, long got, long want) {
        asked++;
        if (got != want) {
            wrong++;
            System.out.println(what + " answered " + got + ", due is " + want);
        }
    }

    static void due(String what, boolean got, boolean want) {
        due(what, got ? 1 : 0, want ? 1 : 0);
    }

    static void end() {
        System.out.println(asked + " answers, " + wrong + " not as due");
        if (wrong != 0) {
            System.exit(1);
        }
    }

    /** TRAY t with these POINTS, three numbers each, and SOLID s made of them: its KIND. */
    static int make(HullFoundry f, int s, int t, int... numbers) {
        f.tray(t, numbers.length / 3);
        for (int k = 0; k < numbers.length / 3; k++) {
            f.point(t, k, numbers[3 * k], numbers[3 * k + 1], numbers[3 * k + 2]);
        }
        return f.solid(s, t);
    }

    /** The same with TRAY 7. */
    static int make(HullFoundry f, int s, int[] numbers) {
        return make(f, s, 7, numbers);
    }

    static int[] box(int x, int y, int z, int width) {
        int[] numbers = new int[24];
        for (int k = 0; k < 8; k++) {
            numbers[3 * k] = x + (k >> 2 & 1) * width;
            numbers[3 * k + 1] = y + (k >> 1 & 1) * width;
            numbers[3 * k + 2] = z + (k & 1) * width;
        }
        return numbers;
    }

    /** Two parabolas side by side: 24 CORNERS. */
    static int[] prism() {
        int[] numbers = new int[72];
        for (int k = 0; k < 24; k++) {
            int x = k % 12 - 6;
            numbers[3 * k] = x;
            numbers[3 * k + 1] = x * x;
            numbers[3 * k + 2] = k < 12 ? 0 : 7;
        }
        return numbers;
    }
}
