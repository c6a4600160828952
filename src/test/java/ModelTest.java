import java.util.Random;
import java.util.TreeMap;

/**
 * Runs of calls against a sorted map that does what the document says. Every run keeps to the 512
 * calls of the document: first calls of all kinds, then all tables are asked for everything.
 */
public final class ModelTest {
    private static final int RUNS = 6000;
    private static final int CALLS = 512;
    private static final int ASKED_AT_END = 8 * 15;

    private final Random random;
    private final int[] pool;
    private final TreeMap<Integer, Integer> model = new TreeMap<>();
    private final HashSuite x = new HashSuite();
    private final String run;

    private ModelTest(String run, Random random, int[] pool) {
        this.run = run;
        this.random = random;
        this.pool = pool;
    }

    public static void main(String[] args) throws Exception {
        for (int run = 1; run <= RUNS && Checks.allRight(); run++) {
            Random random = new Random(run);
            int[] pool = poolOf(run % 7, random);
            new ModelTest("run " + run, random, pool).go(run % 3 != 0);
        }
        laterCallsEnd();
        Checks.end();
    }

    private static int[] poolOf(int kind, Random random) throws Exception {
        int[] pool = new int[20 + random.nextInt(30)];
        int step = new int[] {1, 32, 64, 1 << 20, 0, 0, 0}[kind];
        int from = random.nextInt(3) == 0 ? 0 : -random.nextInt(50) * step;
        for (int i = 0; i < pool.length; i++) {
            pool[i] = step != 0 ? from + i * step : random.nextInt();
        }
        if (kind == 5) {
            Homes.fillWithOneHome(pool, random.nextInt());
        } else if (kind == 6) {
            Homes.fillWithBothHomes(pool, random.nextInt());
        }
        pool[0] = Integer.MIN_VALUE;
        pool[1] = Integer.MAX_VALUE;
        pool[2] = 0;
        return pool;
    }

    private int key() {
        return random.nextInt(40) == 0 ? random.nextInt() : pool[random.nextInt(pool.length)];
    }

    private int value() {
        return random.nextInt(10) == 0 ? random.nextInt() : random.nextInt(7) - 2;
    }

    private int engine() {
        return random.nextInt(30) == 0 ? random.nextInt() : random.nextInt(10) - 1;
    }

    private void due(String call, long got, long want) {
        Checks.due(run + ": " + call, got, want);
    }

    private static boolean isEngine(int engine) {
        return engine >= 0 && engine <= 7;
    }

    private void go(boolean mayScatter) {
        for (int call = 0; call < CALLS - ASKED_AT_END; call++) {
            int what = random.nextInt(100);
            if (what < 60) {
                change(what, mayScatter);
            } else {
                ask(what);
            }
        }
        askAll();
    }

    private void change(int what, boolean mayScatter) {
        if (what < 22) {
            put(key(), value());
        } else if (what < 36) {
            remove(key());
        } else if (what < 46) {
            add(key(), value());
        } else if (what < 55) {
            move(key(), key());
        } else if (what < 57) {
            sift(random.nextInt(40) - 2, random.nextInt(20) - 1);
        } else if (what < 58) {
            sift(900 + random.nextInt(110), random.nextInt(1000));
        } else if (what < 59 && mayScatter) {
            x.scatter(random.nextInt());
        } else if (random.nextInt(6) == 0) {
            due("clear()", x.clear(), model.size());
            model.clear();
        }
    }

    private void put(int key, int value) {
        boolean full = model.size() == 24 && !model.containsKey(key);
        if (!full) {
            model.put(key, value);
        }
        due("put(" + key + ", " + value + ")", x.put(key, value), full ? -1 : model.size());
    }

    private void add(int key, int d) {
        boolean full = model.size() == 24 && !model.containsKey(key);
        if (!full) {
            model.put(key, model.getOrDefault(key, 0) + d);
        }
        due("add(" + key + ", " + d + ")", x.add(key, d), full ? -1 : model.size());
    }

    private void remove(int key) {
        due("remove(" + key + ")", x.remove(key) ? 1 : 0, model.remove(key) != null ? 1 : 0);
    }

    private void move(int from, int to) {
        boolean moves = from != to && model.containsKey(from);
        if (moves) {
            model.put(to, model.remove(from));
        }
        due("move(" + from + ", " + to + ")", x.move(from, to) ? 1 : 0, moves ? 1 : 0);
    }

    private void sift(int m, int r) {
        int want = -2;
        if (m >= 1 && m <= 1000 && r >= 0 && r < m) {
            int before = model.size();
            model.keySet().removeIf(key -> Math.floorMod(key, m) == r);
            want = before - model.size();
        }
        due("sift(" + m + ", " + r + ")", x.sift(m, r), want);
    }

    private void ask(int what) {
        int engine = engine();
        int other = engine();
        if (what < 68) {
            has(engine, key());
        } else if (what < 76) {
            get(engine, key());
        } else if (what < 80) {
            count(engine, value());
        } else if (what < 84) {
            sum(engine);
        } else if (what < 88) {
            due("least()", x.least(), model.isEmpty() ? 0 : model.firstKey());
        } else if (what < 92) {
            boolean agree = isEngine(engine) && isEngine(other);
            due("agree(" + engine + ", " + other + ")", x.agree(engine, other) ? 1 : 0, agree ? 1 : 0);
        } else if (what < 96) {
            due("sound()", x.sound() ? 1 : 0, 1);
        } else {
            due("size()", x.size(), model.size());
        }
    }

    private void has(int engine, int key) {
        boolean want = isEngine(engine) && model.containsKey(key);
        due("has(" + engine + ", " + key + ")", x.has(engine, key) ? 1 : 0, want ? 1 : 0);
    }

    private void get(int engine, int key) {
        int want = isEngine(engine) ? model.getOrDefault(key, 0) : 0;
        due("get(" + engine + ", " + key + ")", x.get(engine, key), want);
    }

    private void count(int engine, int value) {
        long want = isEngine(engine) ? model.values().stream().filter(v -> v == value).count() : -2;
        due("count(" + engine + ", " + value + ")", x.count(engine, value), want);
    }

    private void sum(int engine) {
        int want = isEngine(engine) ? model.values().stream().reduce(0, Integer::sum) : 0;
        due("sum(" + engine + ")", x.sum(engine), want);
    }

    private void askAll() {
        for (int engine = 0; engine < 8; engine++) {
            int[] keys = model.keySet().stream().mapToInt(k -> k).toArray();
            for (int i = 0; i < 6; i++) {
                has(engine, pool[random.nextInt(pool.length)]);
                get(engine, keys.length == 0 ? key() : keys[random.nextInt(keys.length)]);
            }
            sum(engine);
            count(engine, value());
            due("sound()", x.sound() ? 1 : 0, 1);
        }
    }

    /** What calls after the 512th answer is free, but they must come back. */
    private static void laterCallsEnd() {
        Random random = new Random(0);
        HashSuite x = new HashSuite();
        for (int call = 0; call < 200000; call++) {
            int key = random.nextInt(60);
            x.put(key, call);
            x.remove(random.nextInt(60));
            x.move(random.nextInt(), key);
            x.add(random.nextInt(60), 1);
            x.get(call & 7, key);
        }
    }
}
