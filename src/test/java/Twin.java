import java.util.Arrays;

/** Two objects with one past, of which one is asked a call more: afterwards no answer may tell them apart. */
final class Twin {
    private static final int MOST_CALLS = 512;

    private final HullFoundry plain = new HullFoundry();
    private final HullFoundry tried = new HullFoundry();
    private String about = "the past";
    private int calls = 0;

    /** SOLID 0 is of KIND 4, 1 and 3 and 6 of KIND 0, 2 of KIND 4 with 24 CORNERS, 4 of KIND 2, 5 of KIND 3, 7 of KIND 1. */
    private Twin() {
        fill(0, Rows.CORNER_PIECE);
        fill(1);
        fill(2, Rows.prism());
        fill(4, -100, 0, 0, 100, 0, 0);
        fill(5, 0, 0, 0, 4, 0, 0, 0, 4, 0);
        fill(7, 100, -100, 100);
        for (int s : new int[] {0, 2, 4, 5, 7}) {
            both("solid", s, s);
        }
        both("move", 0, 1, 2, 3);
        both("mirror", 7, 0);
    }

    /** The answer to a call that may change what it likes. */
    static long answer(String name, int... v) {
        return Calls.ask(new Twin().tried, name, v);
    }

    /** The answer to a call that must leave everything as it is. */
    static long answerOfIdle(String name, int... v) {
        Twin twin = new Twin();
        twin.about = "after " + name + Arrays.toString(v);
        long answer = Calls.ask(twin.tried, name, v);
        twin.lookAtAll();
        return answer;
    }

    private long both(String name, int... v) {
        calls++;
        long want = Calls.ask(plain, name, v);
        Check.due(about + " " + name + Arrays.toString(v), Calls.ask(tried, name, v), want);
        return want;
    }

    private void fill(int t, int... numbers) {
        both("tray", t, numbers.length / 3);
        for (int k = 0; k < numbers.length / 3; k++) {
            both("point", t, k, numbers[3 * k], numbers[3 * k + 1], numbers[3 * k + 2]);
        }
    }

    private void lookAtAll() {
        for (int s = 0; s < 8; s++) {
            lookAtCorners(s);
        }
        for (int i = 0; i < 8; i++) {
            both("undo");
            for (int s = 0; s < 8; s++) {
                both("count", s, 1);
            }
            both("corner", 0, 0, 0);
            both("corner", 7, 0, 0);
        }
        for (int t = 0; t < 8; t++) {
            both("solid", 0, t);
            lookAtCorners(0);
        }
        Check.due(about + ": within the calls of one object", calls + 1 <= MOST_CALLS, true);
    }

    private void lookAtCorners(int s) {
        long corners = both("count", s, 1);
        for (int i = 0; i < 3 * corners; i++) {
            both("corner", s, i / 3, i % 3);
        }
    }
}
