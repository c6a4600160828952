import java.util.HashMap;
import java.util.Map;

/** Counts wrong answers, tells them, and ends a test with exit code 1 if there was one. */
final class Checks {
    private static final int TOLD_OF_EACH = 3;

    private static final Map<String, Integer> wrongOf = new HashMap<>();
    private static int done = 0;
    private static int wrong = 0;

    private Checks() {
    }

    static void due(String call, long got, long want) {
        done++;
        if (got != want) {
            tell(call, "answered " + got + ", due is " + want);
        }
    }

    static void due(String call, boolean got, boolean want) {
        due(call, got ? 1L : 0L, want ? 1L : 0L);
    }

    /** A call that didn't come back with an answer is a wrong one, and the other tests go on. */
    static void threw(String call, RuntimeException e) {
        done++;
        tell(call, "threw " + e);
    }

    /** One fault makes thousands of wrong answers: the first ones of every test tell enough. */
    private static void tell(String call, String what) {
        wrong++;
        int end = call.lastIndexOf(": ");
        String test = end < 0 ? call : call.substring(0, end);
        if (wrongOf.merge(test, 1, Integer::sum) <= TOLD_OF_EACH) {
            System.out.println(call + " " + what);
        }
    }

    static boolean allRight() {
        return wrong == 0;
    }

    static void end() {
        System.out.println(done + " answers looked at, " + wrong + " wrong");
        if (wrong != 0) {
            System.exit(1);
        }
    }
}
