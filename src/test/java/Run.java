import java.util.ArrayList;
import java.util.Collections;
import java.util.List;
import java.util.Map;
import java.util.TreeMap;
import java.util.TreeSet;
import java.util.function.ToLongFunction;

/**
 * A run of calls on one new object, each with the answer that is due. The calls are kept, so that
 * the run can be made again on other new objects: to ask one object for everything would take more
 * than the 512 calls that the document promises anything about.
 */
final class Run {
    static final int CALLS = 512;
    // Not an int, so that no call is due to answer it.
    private static final long NO_ANSWER = Long.MIN_VALUE;

    private final String name;
    private final List<ToLongFunction<HashSuite>> calls = new ArrayList<>();
    private final HashSuite x = new HashSuite();

    Run(String name) {
        this.name = name;
    }

    private Run again() {
        Run run = new Run(name);
        for (ToLongFunction<HashSuite> call : calls) {
            run.calls.add(call);
            run.answer("a call made again", call);
        }
        return run;
    }

    private Run call(String text, long due, ToLongFunction<HashSuite> call) {
        calls.add(call);
        if (calls.size() > CALLS) {
            throw new IllegalStateException(name + ": the test itself makes too many calls");
        }
        long got = answer(text, call);
        Checks.due(name + ": " + text, got, due);
        return this;
    }

    private long answer(String text, ToLongFunction<HashSuite> call) {
        try {
            return call.applyAsLong(x);
        } catch (RuntimeException e) {
            Checks.threw(name + ": " + text, e);
            return NO_ANSWER;
        }
    }

    private static long number(boolean answer) {
        return answer ? 1L : 0L;
    }

    int length() {
        return calls.size();
    }

    // ---- the calls of the document, each with its due answer at the end ----

    Run put(int key, int value, int due) {
        return call("put(" + key + ", " + value + ")", due, o -> o.put(key, value));
    }

    Run remove(int key, boolean due) {
        return call("remove(" + key + ")", number(due), o -> number(o.remove(key)));
    }

    Run add(int key, int d, int due) {
        return call("add(" + key + ", " + d + ")", due, o -> o.add(key, d));
    }

    Run move(int from, int to, boolean due) {
        return call("move(" + from + ", " + to + ")", number(due), o -> number(o.move(from, to)));
    }

    Run sift(int m, int r, int due) {
        return call("sift(" + m + ", " + r + ")", due, o -> o.sift(m, r));
    }

    Run clear(int due) {
        return call("clear()", due, HashSuite::clear);
    }

    Run scatter(int way) {
        return call("scatter(" + way + ")", 0, o -> {
            o.scatter(way);
            return 0;
        });
    }

    Run size(int due) {
        return call("size()", due, HashSuite::size);
    }

    Run has(int engine, int key, boolean due) {
        return call("has(" + engine + ", " + key + ")", number(due),
                o -> number(o.has(engine, key)));
    }

    Run get(int engine, int key, int due) {
        return call("get(" + engine + ", " + key + ")", due, o -> o.get(engine, key));
    }

    Run count(int engine, int value, int due) {
        return call("count(" + engine + ", " + value + ")", due, o -> o.count(engine, value));
    }

    Run sum(int engine, int due) {
        return call("sum(" + engine + ")", due, o -> o.sum(engine));
    }

    Run least(int due) {
        return call("least()", due, HashSuite::least);
    }

    Run agree(int engine, int other, boolean due) {
        return call("agree(" + engine + ", " + other + ")", number(due),
                o -> number(o.agree(engine, other)));
    }

    Run sound(boolean due) {
        return call("sound()", number(due), o -> number(o.sound()));
    }

    // ---- many calls at once ----

    /** Puts the content into an object that has none. */
    Run fill(Map<Integer, Integer> content) {
        int held = 0;
        for (Map.Entry<Integer, Integer> entry : content.entrySet()) {
            held++;
            put(entry.getKey(), entry.getValue(), held);
        }
        return this;
    }

    /**
     * Asks for everything that a run with this outcome answers, each table by an object of its own,
     * and whether exactly as many keys as are due can still be put in. The run itself stays as it is.
     */
    Run holds(TreeMap<Integer, Integer> content) {
        for (int engine = 0; engine < 8; engine++) {
            Run run = again();
            run.askAll(engine, content);
            run.fillUp(content);
        }
        return this;
    }

    private void askAll(int engine, TreeMap<Integer, Integer> content) {
        size(content.size());
        least(content.isEmpty() ? 0 : content.firstKey());
        sound(true);
        int sum = 0;
        TreeSet<Integer> absent = new TreeSet<>(List.of(0, Integer.MIN_VALUE, Integer.MAX_VALUE));
        for (Map.Entry<Integer, Integer> entry : content.entrySet()) {
            int key = entry.getKey();
            has(engine, key, true);
            get(engine, key, entry.getValue());
            sum += entry.getValue();
            absent.add(key - 1);
            absent.add(key + 1);
        }
        absent.removeAll(content.keySet());
        for (int key : absent) {
            has(engine, key, false);
            get(engine, key, 0);
        }
        sum(engine, sum);
        TreeSet<Integer> values = new TreeSet<>(content.values());
        values.addAll(List.of(0, HashSuite.FULL, HashSuite.BAD, 777));
        for (int value : values) {
            count(engine, value, Collections.frequency(content.values(), value));
        }
        for (int other = 0; other < 8; other++) {
            agree(engine, other, true);
        }
    }

    private void fillUp(TreeMap<Integer, Integer> content) {
        int held = content.size();
        int key = 5000;
        while (held < 24) {
            if (!content.containsKey(key)) {
                held++;
                put(key, 1, held);
            }
            key++;
        }
        put(-5000, 1, HashSuite.FULL);
        sound(true);
        clear(24);
    }
}
