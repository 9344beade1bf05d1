import java.lang.management.ManagementFactory;
import java.util.Random;

/** What a run of 512 calls makes: an object's rows once, nothing in its calls; and any arguments at all end in an answer. */
public final class RoomTest {
    private static final int[] ODD = {Integer.MIN_VALUE, Integer.MIN_VALUE + 1, -2000000, -1000001, -1001, -101, -100, -2, -1,
        0, 1, 2, 3, 4, 5, 6, 7, 8, 9, 23, 24, 25, 100, 101, 1000, 1001, 1000000, 1000001, Integer.MAX_VALUE - 1,
        Integer.MAX_VALUE};

    private static long made() {
        com.sun.management.ThreadMXBean bean = (com.sun.management.ThreadMXBean) ManagementFactory.getThreadMXBean();
        return bean.getThreadAllocatedBytes(Thread.currentThread().getId());
    }

    private static void mixedCalls(HullFoundry f) {
        for (int i = 0; i < 85; i++) {
            f.grow(i % 5, i * 37 % 201 - 100, i * 53 % 201 - 100, i * 71 % 201 - 100);
            f.width(i % 5, 0);
            f.near(i % 5, (i + 1) % 5, 1);
            f.sum(i % 5, i % 3, 6);
            f.mirror(i % 5, i % 4);
            f.undo();
        }
    }

    private static void room() {
        mixedCalls(new HullFoundry());
        made();
        long start = made();
        long ofAsking = made() - start;
        start = made();
        HullFoundry f = new HullFoundry();
        long ofObject = made() - start - ofAsking;
        start = made();
        mixedCalls(f);
        long ofCalls = made() - start - ofAsking;
        System.out.println("an object makes " + ofObject + " bytes, 510 calls make " + ofCalls);
        Check.due("an object's bytes are few", ofObject < 200000, true);
        Check.due("bytes made by calls", ofCalls, 0);
    }

    private static void oddArguments() {
        Random dice = new Random(7);
        int[] v = new int[5];
        int answers = 0;
        for (int run = 0; run < 2000; run++) {
            HullFoundry f = new HullFoundry();
            for (int i = 0; i < 512; i++) {
                for (int k = 0; k < v.length; k++) {
                    v[k] = dice.nextInt(3) == 0 ? ODD[dice.nextInt(ODD.length)] : dice.nextInt(9) - 1;
                }
                Calls.ask(f, Calls.NAMES[dice.nextInt(Calls.NAMES.length)], v);
                answers++;
            }
        }
        Check.due("odd arguments: all answered", answers, 2000 * 512);
    }

    public static void main(String[] args) {
        room();
        oddArguments();
        Check.end();
    }
}
