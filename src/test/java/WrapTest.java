import java.util.TreeMap;

/**
 * The boundary cases that lie inside the tables: 24 keys that all have the same home, for each
 * home, so that they go on past the table's last slot, fill what stands near, and are put aside.
 * Promise 2 to 5 must hold there as everywhere, and promise 16 too.
 */
public final class WrapTest {
    private static final int HOMES = 32;
    private static final int LIMIT = 24;

    public static void main(String[] args) throws Exception {
        for (int home = 0; home < HOMES; home++) {
            int first = firstKeyOf(home);
            int[] keys = new int[LIMIT + 1];
            Homes.fillWithOneHome(keys, first);
            everyOrder("24 keys of home " + home, keys);
            Homes.fillWithBothHomes(keys, first);
            everyOrder("24 keys of homes " + home + " and " + Homes.otherHome(first), keys);
            everyOrder("24 keys around home " + home, keysAround(home));
        }
        Checks.end();
    }

    private static int firstKeyOf(int home) throws Exception {
        int key = 0;
        while (Homes.home(key) != home) {
            key++;
        }
        return key;
    }

    /** Keys of this home and the two next ones in turn, past the end of the table too. */
    private static int[] keysAround(int home) throws Exception {
        int[] keys = new int[LIMIT + 1];
        int key = -1000000;
        for (int i = 0; i < keys.length; key++) {
            if (Homes.home(key) == (home + i % 3) % HOMES) {
                keys[i++] = key;
            }
        }
        return keys;
    }

    private static void everyOrder(String name, int[] keys) {
        for (int step : new int[] {1, LIMIT - 1, 5, 7, 11}) {
            emptying(name + ", every " + step, keys, step);
            turning(name + ", every " + step, keys, step);
        }
    }

    private static TreeMap<Integer, Integer> content(int[] keys) {
        TreeMap<Integer, Integer> content = new TreeMap<>();
        for (int i = 0; i < LIMIT; i++) {
            content.put(keys[i], i - 3);
        }
        return content;
    }

    /** Steps without a common divisor with 24, so that each key has its turn once. */
    private static int nth(int[] keys, int turn, int step) {
        return keys[turn * step % LIMIT];
    }

    private static void emptying(String name, int[] keys, int step) {
        TreeMap<Integer, Integer> content = content(keys);
        Run x = new Run("Promise 2 and 3, " + name).fill(content);
        x.put(keys[LIMIT], 1, HashSuite.FULL).holds(content);
        for (int turn = 0; turn < LIMIT; turn++) {
            int key = nth(keys, turn, step);
            content.remove(key);
            x.remove(key, true).sound(true).remove(key, false);
            if (turn % 5 == 0) {
                x.holds(content);
            }
        }
        x.holds(content).put(keys[LIMIT], 1, 1);
    }

    /** A hole goes round through a table that is full but for it. */
    private static void turning(String name, int[] keys, int step) {
        TreeMap<Integer, Integer> content = content(keys);
        Run x = new Run("Promise 4 and 5, " + name).fill(content);
        int free = keys[LIMIT];
        for (int turn = 0; turn < 2 * LIMIT; turn++) {
            int key = nth(keys, turn, step);
            x.move(key, free, true).sound(true).has(turn & 7, key, false);
            x.add(key, 1, HashSuite.FULL).remove(free, true).add(key, turn, LIMIT);
            content.put(key, turn);
            if (turn % 12 == 0) {
                x.holds(content);
            }
        }
        x.sound(true);
    }
}
