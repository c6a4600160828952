import java.util.ArrayList;
import java.util.List;
import java.util.TreeMap;

/**
 * A test for each sentence of the document that names a boundary case: each run bears the number
 * of its promise and the words that it tests. Each sentence that refuses a call has a run that ends
 * with holds(), which sees that nothing changed. Nothing here looks inside the class.
 */
public final class BoundaryTest {
    private static final int MIN = Integer.MIN_VALUE;
    private static final int MAX = Integer.MAX_VALUE;
    private static final int FULL = -1;
    private static final int BAD = -2;
    private static final int LIMIT = 24;
    private static final int[] KEYS = {MIN, MIN + 1, -1000, -999, -25, -24, -7, -3, -2, -1, 0, 1, 2,
        3, 7, 8, 24, 25, 999, 1000, 1001, 4096, MAX - 1, MAX};
    private static final int[] VALUES = {5, 0, -1, -2, MAX, 5, MIN, 7, 7, 7, 6, 1, 0, 24, 25, -24, 5,
        999, -999, 3, 2, MAX, 8, -5};
    // Not in KEYS, among them the neighbours of keys that are.
    private static final int[] OTHER_KEYS = {4, -4, 9, 23, 26, 32, -32, 64, MIN + 2, MAX - 2, 12345};

    private static boolean isScattered = false;
    private static int way = 0;

    public static void main(String[] args) {
        everyPromise();
        if (Checks.allRight()) {
            scatterMakesNoDifference();
        }
        Checks.end();
    }

    private static void everyPromise() {
        whatItIs();
        terms();
        newObject();
        put();
        remove();
        add();
        move();
        sift();
        clear();
        scatter();
        size();
        has();
        get();
        count();
        sum();
        least();
        agree();
        sound();
        refusals();
    }

    /** Promise 8 once more: every other test, on objects whose keys are scattered otherwise. */
    private static void scatterMakesNoDifference() {
        isScattered = true;
        for (int other : new int[] {1, -1, MIN, MAX, 7954, 0x9E3779B1}) {
            way = other;
            everyPromise();
        }
    }

    private static Run run(String name) {
        if (!isScattered) {
            return new Run(name);
        }
        return new Run("Promise 8, \"which makes no difference\", scatter(" + way + ") before " + name)
                .scatter(way);
    }

    private static TreeMap<Integer, Integer> none() {
        return new TreeMap<>();
    }

    /** The first keys of KEYS with their values. */
    private static TreeMap<Integer, Integer> some(int size) {
        TreeMap<Integer, Integer> content = new TreeMap<>();
        for (int i = 0; i < size; i++) {
            content.put(KEYS[i], VALUES[i]);
        }
        return content;
    }

    private static TreeMap<Integer, Integer> full() {
        return some(LIMIT);
    }

    private static TreeMap<Integer, Integer> with(TreeMap<Integer, Integer> content, int key, int value) {
        TreeMap<Integer, Integer> changed = new TreeMap<>(content);
        changed.put(key, value);
        return changed;
    }

    private static TreeMap<Integer, Integer> without(TreeMap<Integer, Integer> content, int key) {
        TreeMap<Integer, Integer> changed = new TreeMap<>(content);
        changed.remove(key);
        return changed;
    }

    private static TreeMap<Integer, Integer> same(int size, int value) {
        TreeMap<Integer, Integer> content = new TreeMap<>();
        for (int i = 0; i < size; i++) {
            content.put(KEYS[i], value);
        }
        return content;
    }

    /** Numbers next to the engines, and all that differ from an engine in one high bit. */
    private static List<Integer> noEngines() {
        List<Integer> numbers = new ArrayList<>(List.of(-1, 9, -7, -8, MAX, 1000));
        for (int engine = 0; engine < 8; engine++) {
            for (int bit = 3; bit < 32; bit++) {
                numbers.add(engine ^ (1 << bit));
            }
        }
        return numbers;
    }

    // ---- What it is ----

    /** 511 calls that keep twenty keys moving through the tables. */
    private static Run usedUpToOne(int puts) {
        Run x = run("What it is, \"used for at most 512 calls\"");
        // A scattered run has made a call already.
        if (x.length() == 0) {
            x.size(0);
        }
        for (int i = 0; i < puts; i++) {
            x.put(i * 32, i, Math.min(i + 1, 21));
            if (i >= 20) {
                x.remove((i - 20) * 32, true);
            }
        }
        Checks.due("The test itself: calls before the last one", x.length(), Run.CALLS - 1);
        return x;
    }

    private static void whatItIs() {
        // The first call and twenty puts, then a put and a remove in turn.
        int puts = 20 + (Run.CALLS - 1 - 21) / 2;
        int newest = puts - 1;
        int oldest = puts - 20;
        int sum = (newest + oldest) * 10;
        usedUpToOne(puts).put(-1, 1, 21);
        usedUpToOne(puts).put(newest * 32, 1, 20);
        usedUpToOne(puts).add(-1, 1, 21);
        usedUpToOne(puts).remove(oldest * 32, true);
        usedUpToOne(puts).remove((oldest - 1) * 32, false);
        usedUpToOne(puts).move(oldest * 32, -1, true);
        usedUpToOne(puts).move((oldest - 1) * 32, -1, false);
        usedUpToOne(puts).sift(32, 0, 20);
        usedUpToOne(puts).sift(0, 0, BAD);
        usedUpToOne(puts).clear(20);
        usedUpToOne(puts).size(20);
        usedUpToOne(puts).least(oldest * 32);
        usedUpToOne(puts).sound(true);
        for (int engine = 0; engine < 8; engine++) {
            usedUpToOne(puts).has(engine, oldest * 32, true);
            usedUpToOne(puts).has(engine, (oldest - 1) * 32, false);
            usedUpToOne(puts).get(engine, newest * 32, newest);
            usedUpToOne(puts).get(engine, (oldest - 1) * 32, 0);
            usedUpToOne(puts).count(engine, newest, 1);
            usedUpToOne(puts).count(engine, oldest - 1, 0);
            usedUpToOne(puts).sum(engine, sum);
            usedUpToOne(puts).agree(engine, 7 - engine, true);
        }
    }

    // ---- Terms ----

    private static void terms() {
        termsAnyInts();
        termsAtMost24();
        termsSumsWrap();
        termsEngines();
    }

    private static void termsAnyInts() {
        for (int key : KEYS) {
            for (int value : new int[] {MIN, -1, 0, 1, MAX, FULL, BAD}) {
                run("Terms, \"KEYS and VALUES are any ints\"")
                        .put(key, value, 1)
                        .holds(with(none(), key, value))
                        .add(key, 0, 1)
                        .remove(key, true)
                        .add(key, value, 1)
                        .holds(with(none(), key, value))
                        .move(key, ~key, true)
                        .holds(with(none(), ~key, value));
            }
        }
    }

    private static void termsAtMost24() {
        run("Terms, \"at most 24 keys have a value\", 23 and 24 of them")
                .fill(some(LIMIT - 1))
                .holds(some(LIMIT - 1))
                .put(MAX, -5, LIMIT)
                .holds(full());
        Run x = run("Terms, \"at most 24 keys have a value\", more than 24 of them");
        x.fill(full());
        for (int key : OTHER_KEYS) {
            x.put(key, 1, FULL).add(key, 1, FULL).size(LIMIT);
        }
        x.holds(full());
    }

    private static void termsSumsWrap() {
        for (int engine = 0; engine < 8; engine++) {
            run("Terms, \"Sums wrap\", in sum")
                    .put(1, MAX, 1).sum(engine, MAX)
                    .put(2, 1, 2).sum(engine, MIN)
                    .put(3, -1, 3).sum(engine, MAX)
                    .put(4, MAX, 4).sum(engine, -2)
                    .put(5, MIN, 5).sum(engine, MAX - 1)
                    .put(6, MIN, 6).sum(engine, -2);
            run("Terms, \"Sums wrap\", all values the greatest")
                    .fill(same(LIMIT, MAX)).sum(engine, -24);
            run("Terms, \"Sums wrap\", all values the least")
                    .fill(same(LIMIT, MIN)).sum(engine, 0).remove(KEYS[0], true).sum(engine, MIN);
        }
        run("Terms, \"Sums wrap\", in add")
                .put(1, MAX, 1).add(1, 1, 1).holds(with(none(), 1, MIN))
                .add(1, -1, 1).holds(with(none(), 1, MAX))
                .add(1, MAX, 1).holds(with(none(), 1, -2))
                .add(1, MIN, 1).holds(with(none(), 1, MAX - 1))
                .put(1, MIN, 1).add(1, MIN, 1).holds(with(none(), 1, 0));
    }

    private static void termsEngines() {
        for (int engine = 0; engine < 8; engine++) {
            run("Terms, \"An ENGINE is a number 0 .. 7\" and \"no answer depends on it\"")
                    .put(6, 2, 1).put(-6, 2, 2)
                    .has(engine, 6, true).has(engine, 7, false)
                    .get(engine, 6, 2).get(engine, 7, 0)
                    .count(engine, 2, 2).count(engine, 3, 0)
                    .sum(engine, 4).agree(engine, engine, true);
        }
        for (int engine : noEngines()) {
            run("Terms, \"An ENGINE is a number 0 .. 7\", and no other one is")
                    .put(6, 2, 1).put(-6, 2, 2)
                    .has(engine, 6, false).get(engine, 6, 0).count(engine, 2, BAD)
                    .sum(engine, 0).agree(engine, engine, false);
        }
    }

    // ---- Promise 1 ----

    private static void newObject() {
        run("Promise 1, \"No key has a value\"").holds(none());
        Run x = run("Promise 1, \"No key has a value\", so that none can be taken");
        for (int key : KEYS) {
            x.remove(key, false).move(key, 5, false);
        }
        x.clear(0).sift(1, 0, 0).holds(none());

        HashSuite used = new HashSuite();
        used.put(1, 1);
        Run other = run("Promise 1, \"No key has a value\", whatever other objects hold");
        used.put(2, 2);
        other.holds(none());
        Checks.due("Promise 1: the other object", used.size(), 2);
    }

    // ---- Promise 2 ----

    private static void put() {
        putInPlace();
        putCounts();
        putFull();
        putNotFullYet();
    }

    private static void putInPlace() {
        Run x = run("Promise 2, \"in place of the one that it had\"");
        x.put(3, 7, 1).put(3, 8, 1).holds(with(none(), 3, 8));
        x.put(3, 8, 1).holds(with(none(), 3, 8));
        x.put(3, 0, 1).holds(with(none(), 3, 0));
        for (int key : KEYS) {
            run("Promise 2, \"in place of the one that it had\", when 24 keys have one")
                    .fill(full()).put(key, 777, LIMIT).holds(with(full(), key, 777));
        }
    }

    private static void putCounts() {
        Run x = run("Promise 2, \"answers how many keys have one then\", from 1 to 24");
        for (int i = 0; i < LIMIT; i++) {
            x.put(KEYS[i], 0, i + 1).put(KEYS[0], i, i + 1).size(i + 1);
        }
    }

    private static void putFull() {
        for (int key : OTHER_KEYS) {
            run("Promise 2, \"FULL, changing nothing, when it has none and 24 keys have one\"")
                    .fill(full()).put(key, 777, FULL).holds(full())
                    .put(key, 0, FULL).put(key, FULL, FULL).holds(full());
        }
        run("Promise 2, \"FULL\" for a key whose value was taken away")
                .put(4, 1, 1).remove(4, true).fill(full()).put(4, 1, FULL).holds(full());
    }

    private static void putNotFullYet() {
        run("Promise 2, not \"FULL\" when 23 keys have one")
                .fill(full()).put(4, 1, FULL).remove(0, true).put(4, 1, LIMIT)
                .holds(with(without(full(), 0), 4, 1))
                .put(0, 1, FULL);
        run("Promise 2, not \"FULL\" after a move onto another key")
                .fill(full()).move(0, 1, true).put(4, 1, LIMIT).put(0, 1, FULL);
        run("Promise 2, not \"FULL\" after clear")
                .fill(full()).clear(LIMIT).fill(full()).put(4, 1, FULL).holds(full());
        run("Promise 2, not \"FULL\" after sift")
                .fill(full()).sift(1, 0, LIMIT).fill(full()).put(4, 1, FULL).holds(full());
    }

    // ---- Promise 3 ----

    private static void remove() {
        for (int key : KEYS) {
            run("Promise 3, \"Takes the value of a key away\", when 24 keys have one")
                    .fill(full()).remove(key, true).holds(without(full(), key));
            run("Promise 3, \"false when it has none\", any more")
                    .fill(full()).remove(key, true).remove(key, false).holds(without(full(), key));
            run("Promise 3, \"Takes the value of a key away\", the only one")
                    .put(key, 0, 1).remove(key, true).holds(none());
            run("Promise 3, \"false when it has none\", as no key has one")
                    .remove(key, false).holds(none());
        }
        for (int key : OTHER_KEYS) {
            run("Promise 3, \"false when it has none\", when 24 other keys have one")
                    .fill(full()).remove(key, false).holds(full());
        }
        run("Promise 3, \"false when it has none\", after a refused put")
                .fill(full()).put(4, 1, FULL).remove(4, false).holds(full());
        removeAll();
    }

    private static void removeAll() {
        Run forwards = run("Promise 3, \"Takes the value of a key away\", down to none").fill(full());
        Run backwards = run("Promise 3, \"Takes the value of a key away\", back to none").fill(full());
        TreeMap<Integer, Integer> left = full();
        for (int i = 0; i < LIMIT; i++) {
            left.remove(KEYS[i]);
            forwards.remove(KEYS[i], true).holds(left);
            backwards.remove(KEYS[LIMIT - 1 - i], true).holds(some(LIMIT - 1 - i));
        }
        forwards.remove(KEYS[0], false).fill(full()).holds(full());
        backwards.remove(KEYS[0], false).fill(full()).holds(full());
    }

    // ---- Promise 4 ----

    private static void add() {
        addToNone();
        addFull();
        for (int key : KEYS) {
            run("Promise 4, \"Adds d to the value of a key\", when 24 keys have one")
                    .fill(full()).add(key, 3, LIMIT).holds(with(full(), key, full().get(key) + 3))
                    .add(key, 0, LIMIT).holds(with(full(), key, full().get(key) + 3));
        }
        run("Promise 4, \"Adds d to the value of a key\", which comes to 0 and stays a value")
                .put(3, 7, 1).add(3, -7, 1).holds(with(none(), 3, 0));
        Run x = run("Promise 4, \"answers how many keys have one then\", from 1 to 24");
        for (int i = 0; i < LIMIT; i++) {
            x.add(KEYS[i], VALUES[i], i + 1).add(KEYS[0], 0, i + 1).size(i + 1);
        }
        x.holds(full());
    }

    private static void addToNone() {
        for (int d : new int[] {0, 1, -1, MIN, MAX}) {
            String words = "Promise 4, \"which is 0 if it has none yet\"";
            run(words).add(3, d, 1).holds(with(none(), 3, d));
            run(words + ", after remove").put(3, 50, 1).remove(3, true).add(3, d, 1)
                    .holds(with(none(), 3, d));
            run(words + ", after clear").put(3, 50, 1).clear(1).add(3, d, 1)
                    .holds(with(none(), 3, d));
            run(words + ", after sift").put(3, 50, 1).sift(4, 3, 1).add(3, d, 1)
                    .holds(with(none(), 3, d));
            run(words + ", after move").put(3, 50, 1).move(3, 4, true).add(3, d, 2)
                    .holds(with(with(none(), 4, 50), 3, d));
        }
    }

    private static void addFull() {
        for (int key : OTHER_KEYS) {
            run("Promise 4, \"FULL as in put\"")
                    .fill(full()).add(key, 777, FULL).holds(full())
                    .add(key, 0, FULL).add(key, FULL, FULL).holds(full());
        }
        run("Promise 4, \"FULL as in put\", and not when 23 keys have one")
                .fill(full()).add(4, 1, FULL).remove(0, true).add(4, 1, LIMIT)
                .holds(with(without(full(), 0), 4, 1))
                .add(0, 1, FULL).holds(with(without(full(), 0), 4, 1));
    }

    // ---- Promise 5 ----

    private static void move() {
        moveOnto();
        moveWhenFull();
        moveFromNone();
        moveToTheSame();
    }

    private static void moveOnto() {
        run("Promise 5, \"in place of the one that it had\"")
                .put(1, 10, 1).put(2, 20, 2).move(1, 2, true).holds(with(none(), 2, 10));
        run("Promise 5, \"in place of the one that it had\", the same value")
                .put(1, 10, 1).put(2, 10, 2).move(1, 2, true).holds(with(none(), 2, 10));
        run("Promise 5, \"in place of the one that it had\", a value 0")
                .put(1, 0, 1).put(2, 20, 2).move(1, 2, true).holds(with(none(), 2, 0));
        run("Promise 5, \"takes it away from the first\", and back again")
                .put(1, 10, 1).move(1, 2, true).holds(with(none(), 2, 10))
                .move(1, 2, false).move(2, 1, true).holds(with(none(), 1, 10));
        run("Promise 5, \"Gives the value of one key to another one\", from the least to the greatest")
                .put(MIN, 10, 1).move(MIN, MAX, true).holds(with(none(), MAX, 10))
                .move(MAX, MIN, true).holds(with(none(), MIN, 10));
    }

    private static void moveWhenFull() {
        for (int i = 0; i < LIMIT; i++) {
            int from = KEYS[i];
            int to = OTHER_KEYS[i % OTHER_KEYS.length];
            int held = KEYS[(i + 5) % LIMIT];
            run("Promise 5, \"Gives the value of one key to another one\", when 24 keys have one")
                    .fill(full()).move(from, to, true)
                    .holds(with(without(full(), from), to, VALUES[i]));
            run("Promise 5, \"in place of the one that it had\", when 24 keys have one")
                    .fill(full()).move(from, held, true)
                    .holds(with(without(full(), from), held, VALUES[i]));
        }
    }

    private static void moveFromNone() {
        String words = "Promise 5, \"false, changing nothing, when from has none\"";
        run(words + ", and no key has one").move(1, 2, false).holds(none());
        run(words + ", and to has one").put(2, 20, 1).move(1, 2, false).holds(with(none(), 2, 20));
        run(words + ", and to has none").put(3, 20, 1).move(1, 2, false).holds(with(none(), 3, 20));
        run(words + " any more").put(1, 20, 1).remove(1, true).move(1, 2, false).holds(none());
        for (int key : OTHER_KEYS) {
            run(words + ", and 24 keys have one")
                    .fill(full()).move(key, 0, false).move(key, 5, false).holds(full());
        }
    }

    private static void moveToTheSame() {
        String words = "Promise 5, \"false, changing nothing, when ... they are the same\"";
        for (int key : KEYS) {
            run(words).put(key, 20, 1).move(key, key, false).holds(with(none(), key, 20));
            run(words + ", with a value 0").put(key, 0, 1).move(key, key, false)
                    .holds(with(none(), key, 0));
            run(words + ", and 24 keys have one").fill(full()).move(key, key, false).holds(full());
            run(words + ", and have none").move(key, key, false).holds(none());
        }
    }

    // ---- Promise 6 ----

    private static void sift() {
        siftBelowZero();
        siftEveryDivisor();
        siftAllAndNone();
        siftDivisorRefused();
        siftRestRefused();
    }

    private static void siftBelowZero() {
        String words = "Promise 6, \"so that the rest is 0 .. m - 1, for keys below 0 too\"";
        int[][] rests = {{-1, 2, 1}, {-2, 2, 0}, {-1, 3, 2}, {-3, 3, 0}, {-4, 3, 2}, {-1, 1000, 999},
            {-999, 1000, 1}, {-1000, 1000, 0}, {-1001, 1000, 999}, {MIN, 1000, 352}, {MIN, 2, 0},
            {MIN, 3, 1}, {MIN, 7, 5}, {MIN, 1, 0}, {-1, 1, 0}};
        for (int[] rest : rests) {
            int key = rest[0];
            int m = rest[1];
            int r = rest[2];
            run(words).put(key, 5, 1).sift(m, r, 1).holds(none());
            // The rest of Java's own division, and the one that would be due to the key above 0.
            int mirrored = (m - r) % m;
            if (mirrored != r) {
                run(words).put(key, 5, 1).sift(m, mirrored, 0).holds(with(none(), key, 5));
            }
        }
    }

    private static void siftEveryDivisor() {
        for (int m = 1; m <= 1000; m++) {
            int[] rests = {0, m / 2, m - 1, Math.floorMod(MIN, m), Math.floorMod(MAX, m)};
            for (int r : rests) {
                siftOnce(m, r);
            }
        }
    }

    private static void siftOnce(int m, int r) {
        TreeMap<Integer, Integer> content = new TreeMap<>();
        for (int key : new int[] {MIN, -m - 1, -m, 1 - m, -1, 0, 1, m - 1, m, m + 1, MAX}) {
            content.put(key, key / 2);
        }
        Run x = run("Promise 6, \"leave the rest r when divided by m\"").fill(content);
        TreeMap<Integer, Integer> left = new TreeMap<>(content);
        left.keySet().removeIf(key -> Math.floorMod(key, m) == r);
        x.sift(m, r, content.size() - left.size()).size(left.size());
        for (int key : content.keySet()) {
            x.has((m + r) & 7, key, left.containsKey(key));
        }
        x.sift(m, r, 0);
        if (m % 100 < 2) {
            x.holds(left);
        }
    }

    private static void siftAllAndNone() {
        run("Promise 6, \"answers how many had one\", all 24")
                .fill(full()).sift(1, 0, LIMIT).holds(none()).sift(1, 0, 0);
        run("Promise 6, \"answers how many had one\", of no keys")
                .sift(1, 0, 0).sift(1000, 999, 0).holds(none());
        run("Promise 6, \"answers how many had one\", when no key leaves the rest")
                .fill(full()).sift(1000, 500, 0).holds(full());
        run("Promise 6, \"m is ... 1 .. 1000\" and \"r ... 0 .. m - 1\", their ends")
                .put(1999, 1, 1).put(2000, 2, 2).put(-1, 3, 3).put(7, 4, 4)
                .sift(1000, 999, 2).holds(with(with(none(), 2000, 2), 7, 4))
                .sift(1000, 0, 1).holds(with(none(), 7, 4))
                .sift(1, 0, 1).holds(none());
    }

    private static void siftDivisorRefused() {
        for (int m : new int[] {0, -1, -2, -1000, -1001, MIN, MIN + 1}) {
            String words = "Promise 6, \"BAD when m is not 1 .. 1000\", too small";
            for (int r : new int[] {0, 1, -1, m, m - 1, m + 1}) {
                run(words).fill(full()).sift(m, r, BAD).holds(full());
                run(words + ", no key").sift(m, r, BAD).holds(none());
            }
        }
        for (int m : new int[] {1001, 1002, 2000, 1024, 65536, MAX - 1, MAX}) {
            String words = "Promise 6, \"BAD when m is not 1 .. 1000\", too large";
            for (int r : new int[] {0, 1, 7, 999, 1000, m - 1, m, -1}) {
                run(words).fill(full()).sift(m, r, BAD).holds(full());
                run(words + ", no key").sift(m, r, BAD).holds(none());
            }
        }
    }

    private static void siftRestRefused() {
        for (int m : new int[] {1, 2, 3, 10, 24, 999, 1000}) {
            String words = "Promise 6, \"BAD when ... r not 0 .. m - 1\"";
            for (int r : new int[] {-1, -2, -m, -1000, MIN}) {
                run(words + ", too small").fill(full()).sift(m, r, BAD).holds(full());
                run(words + ", too small, no key").sift(m, r, BAD).holds(none());
            }
            for (int r : new int[] {m, m + 1, 2 * m, 1001, MAX}) {
                run(words + ", too large").fill(full()).sift(m, r, BAD).holds(full());
                run(words + ", too large, no key").sift(m, r, BAD).holds(none());
            }
        }
    }

    // ---- Promise 7 ----

    private static void clear() {
        String words = "Promise 7, \"Takes all values away and answers how many there were\"";
        for (int size = 0; size <= LIMIT; size++) {
            run(words).fill(some(size)).clear(size).holds(none()).clear(0).holds(none());
        }
        run(words + ", after a refused put")
                .fill(full()).put(4, 1, FULL).clear(LIMIT).holds(none());
        run(words + ", and again").fill(full()).clear(LIMIT).fill(full()).holds(full())
                .clear(LIMIT).holds(none());
    }

    // ---- Promise 8 ----

    private static void scatter() {
        int[] ways = {0, 1, -1, 2, 31, 32, 64, MIN, MIN + 1, MAX - 1, MAX, 0x9E3779B1, 7954};
        String words = "Promise 8, \"in another way (any int), which makes no difference\"";
        for (int other : ways) {
            run(words + ", no key").scatter(other).holds(none());
            run(words + ", 24 keys").fill(full()).scatter(other).holds(full())
                    .put(4, 1, FULL).add(4, 1, FULL).remove(4, false).sift(0, 0, BAD).holds(full());
            run(words + ", the same way twice")
                    .fill(full()).scatter(other).scatter(other).holds(full());
            run(words + ", after values were taken away")
                    .fill(full()).remove(0, true).sift(1000, 1, 3).scatter(other).clear(20)
                    .scatter(other).holds(none());
        }
        Run x = run(words + ", one way after another").fill(full());
        for (int i = 0; i < 250; i++) {
            x.scatter(i * 0x01234567 + ways[i % ways.length]);
        }
        x.holds(full());
        scatterBetween(words + ", between changes");
    }

    private static void scatterBetween(String name) {
        Run x = run(name);
        TreeMap<Integer, Integer> content = new TreeMap<>();
        for (int i = 0; i < LIMIT; i++) {
            content.put(KEYS[i], VALUES[i]);
            x.put(KEYS[i], VALUES[i], i + 1).scatter(KEYS[LIMIT - 1 - i]).holds(content);
        }
        for (int i = 0; i < LIMIT; i++) {
            content.remove(KEYS[i]);
            x.remove(KEYS[i], true).scatter(VALUES[i]).remove(KEYS[i], false).holds(content);
        }
    }

    // ---- Promise 9 ----

    private static void size() {
        String words = "Promise 9, \"How many keys have a value\"";
        run(words + ", none").size(0);
        run(words + ", a value 0 is one").put(0, 0, 1).size(1).add(1, 0, 2).size(2);
        run(words + ", 24 at most").fill(full()).size(LIMIT).put(4, 1, FULL).size(LIMIT)
                .add(4, 1, FULL).size(LIMIT);
        run(words + ", none again").fill(full()).clear(LIMIT).size(0);
        run(words + ", never below 0").remove(1, false).size(0).sift(1, 0, 0).size(0).clear(0).size(0);
    }

    // ---- Promise 10 ----

    private static void has() {
        for (int engine = 0; engine < 8; engine++) {
            String words = "Promise 10, \"Whether a key has a value\"";
            run(words + ", no key has").has(engine, 0, false).has(engine, MIN, false)
                    .has(engine, MAX, false).has(engine, -1, false);
            run(words + ", the value is 0").put(0, 0, 1).has(engine, 0, true).has(engine, 1, false);
            run(words + ", refused at the limit").fill(full()).put(4, 1, FULL).has(engine, 4, false);
            run(words + ", any more").put(4, 1, 1).has(engine, 4, true).remove(4, true)
                    .has(engine, 4, false);
        }
        Run x = run("Promise 10, \"false when there is no such engine\"").fill(some(5));
        for (int engine : noEngines()) {
            x.has(engine, KEYS[0], false);
        }
        x.holds(some(5));
        for (int engine : noEngines()) {
            Run y = run("Promise 10, \"false when there is no such engine\", for each of 24 keys");
            y.fill(full());
            for (int key : KEYS) {
                y.has(engine, key, false);
            }
        }
    }

    // ---- Promise 11 ----

    private static void get() {
        for (int engine = 0; engine < 8; engine++) {
            String words = "Promise 11, \"0 when it has none\"";
            run(words + ", no key has").get(engine, 0, 0).get(engine, MIN, 0).get(engine, MAX, 0);
            run(words + ", 24 others have").fill(same(LIMIT, 9)).get(engine, 4, 0).get(engine, 5, 0);
            run(words + ", refused at the limit").fill(full()).put(4, 1, FULL).get(engine, 4, 0);
            run(words + ", any more, after remove").put(4, 1, 1).remove(4, true).get(engine, 4, 0);
            run(words + ", any more, after move").put(4, 1, 1).move(4, 5, true).get(engine, 4, 0);
            run(words + ", any more, after sift").put(4, 1, 1).sift(4, 0, 1).get(engine, 4, 0);
            run(words + ", any more, after clear").put(4, 1, 1).clear(1).get(engine, 4, 0);
        }
        Run x = run("Promise 11, \"0 when ... there is no such engine\"").fill(same(5, 9));
        for (int engine : noEngines()) {
            x.get(engine, KEYS[0], 0);
        }
        x.holds(same(5, 9));
        for (int engine : noEngines()) {
            Run y = run("Promise 11, \"0 when ... there is no such engine\", for each of 24 keys");
            y.fill(same(LIMIT, 9));
            for (int key : KEYS) {
                y.get(engine, key, 0);
            }
        }
    }

    // ---- Promise 12 ----

    private static void count() {
        for (int engine = 0; engine < 8; engine++) {
            String words = "Promise 12, \"The number of keys that have this value\"";
            run(words + ", no key has one").count(engine, 0, 0).count(engine, 5, 0);
            run(words + ", keys without a value don't have 0")
                    .put(4, 0, 1).put(5, 6, 2).count(engine, 0, 1).remove(4, true).count(engine, 0, 0);
            for (int value : new int[] {0, FULL, BAD, MIN, MAX, 7}) {
                run(words + ", all 24").fill(same(LIMIT, value)).count(engine, value, LIMIT)
                        .count(engine, value + 1, 0).put(4, value, FULL).count(engine, value, LIMIT)
                        .remove(KEYS[3], true).count(engine, value, LIMIT - 1)
                        .clear(LIMIT - 1).count(engine, value, 0);
            }
        }
        Run x = run("Promise 12, \"BAD when there is no such engine\"").fill(same(5, 9));
        Run y = run("Promise 12, \"BAD when there is no such engine\", and no key has the value");
        for (int engine : noEngines()) {
            x.count(engine, 9, BAD);
            y.count(engine, 0, BAD);
        }
        x.holds(same(5, 9));
        y.holds(none());
    }

    // ---- Promise 13 ----

    private static void sum() {
        for (int engine = 0; engine < 8; engine++) {
            String words = "Promise 13, \"The sum of all values\"";
            run(words + ", of none").sum(engine, 0);
            run(words + ", of none any more").fill(same(LIMIT, 9)).clear(LIMIT).sum(engine, 0);
            run(words + ", of 24").fill(same(LIMIT, 9)).sum(engine, 216)
                    .put(4, 9, FULL).sum(engine, 216);
            run(words + ", in place").put(1, 5, 1).put(1, 6, 1).sum(engine, 6);
            run(words + ", below 0").put(1, -5, 1).put(2, 3, 2).sum(engine, -2);
        }
        Run x = run("Promise 13, \"0 when there is no such engine\"").fill(same(5, 9));
        for (int engine : noEngines()) {
            x.sum(engine, 0);
        }
        x.holds(same(5, 9));
        for (int engine : noEngines()) {
            run("Promise 13, \"0 when there is no such engine\", of 24").fill(same(LIMIT, 9))
                    .sum(engine, 0).holds(same(LIMIT, 9));
        }
    }

    // ---- Promise 14 ----

    private static void least() {
        String words = "Promise 14, \"0 when none has\"";
        run(words).least(0);
        run(words + ", after remove").put(5, 1, 1).remove(5, true).least(0);
        run(words + ", after clear").put(-5, 1, 1).clear(1).least(0);
        run(words + ", after sift").put(-5, 1, 1).sift(1, 0, 1).least(0);
        for (int key : KEYS) {
            run("Promise 14, \"The least key that has a value\", the only one")
                    .put(key, 1, 1).least(key);
        }
        run("Promise 14, \"The least key that has a value\", above 0")
                .put(MAX, 0, 1).least(MAX).put(7, 5, 2).least(7).put(8, 1, 3).least(7);
        run("Promise 14, \"The least key that has a value\", 0 itself")
                .put(0, 9, 1).put(1, 1, 2).least(0).remove(0, true).least(1);
        Run x = run("Promise 14, \"The least key that has a value\", of 24 down to one").fill(full());
        for (int i = 0; i < LIMIT; i++) {
            x.least(KEYS[i]).remove(KEYS[i], true);
        }
        x.least(0);
        run("Promise 14, \"The least key that has a value\", not one that was refused")
                .fill(same(LIMIT, 1)).remove(MIN, true).put(5000, 1, LIMIT).put(MIN, 1, FULL)
                .add(MIN, 1, FULL).least(MIN + 1);
        run("Promise 14, \"The least key that has a value\", after move")
                .put(5, 1, 1).put(6, 1, 2).move(5, 7, true).least(6).move(7, MIN, true).least(MIN);
    }

    // ---- Promise 15 ----

    private static void agree() {
        String words = "Promise 15, \"false when one is none\"";
        for (int size : new int[] {0, 1, LIMIT}) {
            Run x = run("Promise 15, \"Whether two engines have the same keys and values\"");
            x.fill(some(size));
            for (int pair = 0; pair < 64; pair++) {
                x.agree(pair / 8, pair % 8, true);
            }
            for (int engine : noEngines()) {
                Run y = run(words).fill(some(size));
                for (int other = 0; other < 8; other++) {
                    y.agree(engine, other, false).agree(other, engine, false);
                }
                y.agree(engine, engine, false).agree(engine, -1, false).agree(8, engine, false);
            }
            run(words + ", changing nothing").fill(some(size)).agree(0, 8, false)
                    .agree(-1, 7, false).agree(MIN, MAX, false).holds(some(size));
        }
    }

    // ---- Promise 16 ----

    private static void sound() {
        String words = "Promise 16, \"it always is\"";
        run(words + ", new").sound(true);
        Run x = run(words + ", up to 24 and down again");
        for (int i = 0; i < LIMIT; i++) {
            x.put(KEYS[i], VALUES[i], i + 1).sound(true);
        }
        x.put(4, 1, FULL).sound(true).add(4, 1, FULL).sound(true).remove(4, false).sound(true)
                .move(4, 0, false).sound(true).move(0, 0, false).sound(true).sift(0, 0, BAD).sound(true)
                .has(8, 0, false).sound(true).get(8, 0, 0).sound(true).count(8, 0, BAD).sound(true)
                .sum(8, 0).sound(true).agree(8, 8, false).sound(true)
                .move(0, 4, true).sound(true).move(4, 0, true).sound(true).add(0, 1, LIMIT).sound(true)
                .scatter(9).sound(true).put(0, 1, LIMIT).sound(true).sift(1000, 1, 3).sound(true);
        x.clear(LIMIT - 3).sound(true).clear(0).sound(true).remove(0, false).sound(true);
    }

    // ---- Promise 17 ----

    private static void refusals() {
        for (int size : new int[] {0, 1, 11, LIMIT - 1, LIMIT}) {
            run("Promise 17, \"refused, because a number is not as said there ... changes nothing\"")
                    .fill(some(size))
                    .sift(0, 0, BAD).sift(1001, 0, BAD).sift(5, -1, BAD).sift(5, 5, BAD)
                    .has(-1, MIN, false).has(8, MIN, false).get(-1, MIN, 0).get(8, MIN, 0)
                    .count(-1, 5, BAD).count(8, 5, BAD).sum(-1, 0).sum(8, 0)
                    .agree(-1, 0, false).agree(0, 8, false)
                    .holds(some(size));
            run("Promise 17, \"refused, because ... something is not there ... changes nothing\"")
                    .fill(some(size))
                    .remove(4, false).remove(MAX - 2, false)
                    .move(4, MIN, false).move(4, 5, false).move(4, 4, false)
                    .holds(some(size));
        }
        run("Promise 17, \"refused, because ... a limit is reached, changes nothing\"")
                .fill(full()).put(4, 1, FULL).add(4, 1, FULL).put(-4, 0, FULL).add(-4, 0, FULL)
                .holds(full());
        refusalsOneByOne();
    }

    private static void refusalsOneByOne() {
        Run x = run("Promise 17, many refused calls one after another").fill(full());
        for (int i = 0; i < 9; i++) {
            int key = OTHER_KEYS[i];
            x.put(key, 1, FULL).remove(key, false).add(key, 1, FULL).move(key, KEYS[i], false)
                    .move(KEYS[i], KEYS[i], false).sift(-i, 0, BAD).sift(1001 + i, 0, BAD)
                    .sift(i + 1, i + 1, BAD).has(8 + i, KEYS[i], false).get(8 + i, KEYS[i], 0)
                    .count(8 + i, 5, BAD).sum(8 + i, 0).agree(8 + i, i & 7, false);
        }
        x.holds(full());
    }
}
