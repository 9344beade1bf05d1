import java.util.ArrayList;
import java.util.Arrays;
import java.util.List;
import java.util.Random;

/** Long runs of mixed calls, each answer held against Model's; the seeds are fixed. */
public final class ModelTest {
    private static final int[] RING = Rows.ring();

    private static int wrong = 0;
    private static long calls = 0;

    private final Random dice;
    private final HullFoundry foundry = new HullFoundry();
    private final Model model = new Model();
    private final List<String> history = new ArrayList<>();
    /** How far this run's points spread, so that some runs are full of points level with others and others are not. */
    private final int spread;

    private ModelTest(long seed) {
        dice = new Random(seed);
        int[] spreads = {1, 2, 3, 5, 10, 30, 100};
        spread = spreads[(int) (seed % spreads.length)];
    }

    private long both(String name, int... v) {
        calls++;
        history.add(name + Arrays.toString(v));
        long got = Calls.ask(foundry, name, v);
        long want = model.call(name, v);
        if (got != want) {
            wrong++;
            if (wrong <= 20) {
                System.out.println(name + Arrays.toString(v) + " answered " + got + ", due is " + want);
            }
            if (wrong == 1) {
                System.out.println("after " + history);
            }
        }
        return got;
    }

    private int roll(int low, int high) {
        return low + dice.nextInt(high - low + 1);
    }

    private int slot() {
        return dice.nextInt(40) == 0 ? roll(-2, 9) : roll(0, 4);
    }

    private int number() {
        int few = dice.nextInt(60);
        return few == 0 ? roll(-102, 102) : few == 1 ? dice.nextInt() : roll(-spread, spread);
    }

    private void fillTray() {
        int t = slot();
        int n = dice.nextInt(30) == 0 ? roll(-2, 26) : dice.nextInt(3) == 0 ? 24 : roll(0, 24);
        if (both("tray", t, n) == 0) {
            return;
        }
        int way = dice.nextInt(9);
        int[] p = {roll(-3, 3), roll(-3, 3), roll(-3, 3)};
        for (int k = 0; k < n; k++) {
            int[] q = place(way, k, p);
            both("point", t, k, q[0], q[1], q[2]);
        }
        both("solid", slot(), t);
    }

    /** Point k of a tray that is filled one way: in a line, in a plane, on a ball, rings, far out, or anywhere. */
    private int[] place(int way, int k, int[] p) {
        int[] q = {number(), number(), number()};
        switch (way) {
            case 0:
                int r = roll(-2, 2);
                return new int[] {p[0] * r + 1, p[1] * r, p[2] * r - 1};
            case 1:
                boolean isWide = Math.max(Math.abs((long) q[0]), Math.abs((long) q[1])) > 15;
                return isWide ? q : new int[] {q[0], q[1], q[0] * p[0] + q[1] * p[1]};
            case 2:
                return ball();
            case 3:
                return new int[] {RING[3 * k], RING[3 * k + 1], p[0] * RING[3 * k] / 4};
            case 4:
                return new int[] {RING[6 * (k / 2)], k % 2 == 0 ? -spread : spread, RING[6 * (k / 2) + 1]};
            case 5:
                return new int[] {farOut(), farOut(), farOut()};
            case 6:
                // a rough ring between two tips: a late tip tears off many triangles at once
                return k < 2 ? new int[] {roll(-40, -20), roll(-20, -14), (2 * k - 1) * roll(1, 40)}
                    : new int[] {RING[3 * k], RING[3 * k + 1], roll(-1, 1)};
            default:
                return q;
        }
    }

    private int farOut() {
        return (dice.nextBoolean() ? 1 : -1) * roll(96, 100);
    }

    private int[] ball() {
        for (int i = 0; i < 1000; i++) {
            int[] q = {roll(-spread, spread), roll(-spread, spread), roll(-spread, spread)};
            int square = q[0] * q[0] + q[1] * q[1] + q[2] * q[2];
            if (square <= spread * spread && square >= spread * spread * 8 / 10) {
                return q;
            }
        }
        return new int[3];
    }

    private void changeSomething() {
        int s = slot();
        switch (dice.nextInt(12)) {
            case 0: fillTray(); break;
            case 1: case 2: case 3: both("grow", s, number(), number(), number()); break;
            case 4: both("sum", s, slot(), slot()); break;
            case 5: both("move", s, number(), number(), number()); break;
            case 6: both("mirror", s, roll(-1, 4)); break;
            case 7: both("turn", s, roll(-1, 3)); break;
            case 8: both("copy", s, slot()); break;
            case 9: both("undo"); break;
            case 10: both("sum", s, roll(0, 4), roll(0, 4)); break;
            default: both("move", s, roll(-5, 5), roll(-5, 5), roll(-5, 5)); break;
        }
    }

    private void askSomething() {
        int s = slot();
        switch (dice.nextInt(14)) {
            case 0: both("count", s, roll(-1, 4)); break;
            case 1: both("corner", s, roll(-1, 24), roll(-1, 3)); break;
            case 2: both("edge", s, roll(-1, 40), roll(-1, 4)); break;
            case 3: both("face", s, roll(-1, 20), roll(-1, 12)); break;
            case 4: case 5: askIn(s); break;
            case 6: askSide(s); break;
            case 7: both("volume", s); break;
            case 8: both("middle", s, roll(-1, 3), roll(-1, 2)); break;
            case 9: both("far", s, roll(-1, 3)); break;
            case 10: both("width", s, roll(-1, 2)); break;
            case 11: both("apart", s, slot()); break;
            case 12: both("same", s, slot()); break;
            default: both("near", s, slot(), roll(-1, 2)); break;
        }
    }

    private void askIn(int s) {
        int q = dice.nextInt(20) == 0 ? roll(-1, 1002) : roll(1, 6);
        if (s < 0 || s > 7 || model.solids[s].corners.isEmpty() || dice.nextInt(4) == 0) {
            both("in", s, number(), number(), number(), q);
            return;
        }
        // a mean of some corners is in the solid, often on its bounds; now and then a little beside it
        int shares = roll(1, 4);
        long[] mean = new long[3];
        for (int i = 0; i < shares; i++) {
            List<long[]> corners = model.solids[s].corners;
            mean = Shape.plus(mean, corners.get(dice.nextInt(corners.size())));
        }
        int side = dice.nextInt(3) == 0 ? roll(-1, 1) : 0;
        int more = roll(1, 250);
        both("in", s, (int) mean[0] * more + side, (int) mean[1] * more, (int) mean[2] * more, shares * more);
    }

    private void askSide(int s) {
        int[] n = {roll(-4, 4), roll(-4, 4), roll(-4, 4)};
        if (dice.nextInt(20) == 0) {
            n[dice.nextInt(3)] = roll(-1002, 1002);
        }
        int d = dice.nextInt(30) == 0 ? roll(-1000002, 1000002) : roll(-3 * spread, 3 * spread);
        if (s >= 0 && s < 8 && !model.solids[s].corners.isEmpty() && dice.nextBoolean()) {
            long[] p = model.solids[s].corners.get(0);
            d = (int) (n[0] * p[0] + n[1] * p[1] + n[2] * p[2]);
        }
        both("side", s, n[0], n[1], n[2], d);
    }

    /** Everything that can be asked about one solid. */
    private void askAll(int s) {
        for (int what = -1; what <= 4; what++) {
            both("count", s, what);
        }
        Shape shape = model.solids[s];
        for (int k = 0; k <= shape.corners.size(); k++) {
            for (int axis = 0; axis < 3; axis++) {
                both("corner", s, k, axis);
            }
        }
        for (int k = 0; k <= shape.edges.size(); k++) {
            for (int what = 0; what < 4; what++) {
                both("edge", s, k, what);
            }
        }
        for (int k = 0; k <= shape.faces.size(); k++) {
            int ring = k < shape.faces.size() ? shape.rings.get(k).size() : 0;
            for (int what = 0; what <= 6 + ring; what++) {
                both("face", s, k, what);
            }
        }
        both("volume", s);
        for (int what = 0; what < 3; what++) {
            both("far", s, what);
            both("middle", s, what, 0);
            both("middle", s, what, 1);
            both("width", s, what);
        }
    }

    private void run(int length) {
        fillTray();
        fillTray();
        for (int i = 0; i < length; i++) {
            if (dice.nextInt(3) == 0) {
                changeSomething();
            } else {
                askSomething();
            }
        }
        for (int s = 0; s < 5; s++) {
            askAll(s);
            for (int t = 0; t < 5; t++) {
                both("near", s, t, 0);
                both("near", s, t, 1);
                both("apart", s, t);
                both("same", s, t);
            }
        }
        for (int i = 0; i < 10; i++) {
            both("undo");
            askAll(roll(0, 4));
        }
    }

    public static void main(String[] args) {
        int runs = args.length > 0 ? Integer.parseInt(args[0]) : 350;
        int first = args.length > 1 ? Integer.parseInt(args[1]) : 0;
        for (long seed = first; seed < first + runs; seed++) {
            new ModelTest(seed).run(200);
        }
        System.out.println(calls + " calls, " + wrong + " wrong");
        if (wrong != 0) {
            System.exit(1);
        }
    }
}
