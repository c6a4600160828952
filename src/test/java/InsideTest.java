import java.lang.reflect.Field;
import java.util.Arrays;
import java.util.Random;

/**
 * What can't be seen through the public face: agree and sound look at the tables themselves, so
 * that one that is spoilt from outside is noticed; scatter does scatter all tables anew; and no call
 * throws or fails to end, whatever the tables hold.
 */
public final class InsideTest {
    private static final int REGION = 64;

    public static void main(String[] args) throws Exception {
        for (int engine = 0; engine < 8; engine++) {
            for (int seed = 0; seed < 200; seed++) {
                spoilValue(engine, seed);
                spoilKey(engine, seed);
                spoilMark(engine, seed);
                doubleKey(engine, seed);
            }
            scatterMoves(engine);
        }
        for (int engine : new int[] {0, 3, 4, 5, 6, 7}) {
            leaveMark(engine);
        }
        for (int seed = 0; seed < 200; seed++) {
            spoilLink(5, seed);
            spoilLink(7, seed);
            linkToHeld(5, seed);
            linkToHeld(6, seed);
            linkToFree(seed);
            linkToNowhere(5, seed);
            linkToNowhere(6, seed);
            spoilBits(seed);
            spoilSize(seed);
        }
        for (int seed = 0; seed < 20000; seed++) {
            anyStateAnswers(seed);
        }
        Checks.end();
    }

    private static HashSuite filled(int seed) {
        HashSuite x = new HashSuite();
        Random random = new Random(seed);
        for (int i = 0; i < 60; i++) {
            x.put(random.nextInt(90), random.nextInt(5));
            x.remove(random.nextInt(90));
        }
        x.put(1000, 3);
        Checks.due("sound() before", x.sound(), true);
        return x;
    }

    private static Field field(String name) throws Exception {
        Field f = HashSuite.class.getDeclaredField(name);
        f.setAccessible(true);
        return f;
    }

    private static int[] ints(HashSuite x, String name) throws Exception {
        return (int[]) field(name).get(x);
    }

    private static byte[] marks(HashSuite x) throws Exception {
        return (byte[]) field("markAt").get(x);
    }

    private static int heldSlot(HashSuite x, int engine, int seed) throws Exception {
        byte[] mark = marks(x);
        int slot = new Random(seed).nextInt(REGION);
        while (mark[engine * REGION + slot] != 1) {
            slot = (slot + 1) % REGION;
        }
        return engine * REGION + slot;
    }

    private static void isNoticed(String what, HashSuite x, int engine) {
        int other = (engine + 3) % 8;
        Checks.due(what + ": sound()", x.sound(), false);
        Checks.due(what + ": agree, spoilt first", x.agree(engine, other), false);
        Checks.due(what + ": agree, spoilt second", x.agree(other, engine), false);
        Checks.due(what + ": agree of two others", x.agree(other, (engine + 5) % 8), true);
    }

    private static void spoilValue(int engine, int seed) throws Exception {
        HashSuite x = filled(seed);
        ints(x, "valueAt")[heldSlot(x, engine, seed)]++;
        isNoticed("a value in table " + engine, x, engine);
    }

    private static void spoilKey(int engine, int seed) throws Exception {
        HashSuite x = filled(seed);
        ints(x, "keyAt")[heldSlot(x, engine, seed)] += 5000;
        isNoticed("a key in table " + engine, x, engine);
    }

    private static void spoilMark(int engine, int seed) throws Exception {
        HashSuite x = filled(seed);
        marks(x)[heldSlot(x, engine, seed)] = 0;
        isNoticed("a mark in table " + engine, x, engine);
    }

    private static void doubleKey(int engine, int seed) throws Exception {
        HashSuite x = filled(seed);
        x.put(1001, 3);
        int slot = heldSlot(x, engine, seed);
        int[] key = ints(x, "keyAt");
        int[] value = ints(x, "valueAt");
        int copied = key[slot] == 1000 ? 1001 : 1000;
        key[slot] = copied;
        value[slot] = 3;
        isNoticed("a key twice in table " + engine, x, engine);
    }

    private static int freeSlot(HashSuite x, int engine) throws Exception {
        byte[] mark = marks(x);
        int[] link = ints(x, "linkAt");
        int slot = engine * REGION;
        while (mark[slot] != 0 || link[slot] != 0) {
            slot++;
        }
        return slot;
    }

    private static void leaveMark(int engine) throws Exception {
        HashSuite x = filled(1);
        marks(x)[freeSlot(x, engine)] = 2;
        Checks.due("a mark of a removed key in table " + engine + ": sound()", x.sound(), false);
    }

    private static void linkToHeld(int engine, int seed) throws Exception {
        HashSuite x = filled(seed);
        ints(x, "linkAt")[freeSlot(x, engine)] = heldSlot(x, engine, seed);
        Checks.due("a link too many in table " + engine + ": sound()", x.sound(), false);
    }

    private static void linkToFree(int seed) throws Exception {
        HashSuite x = filled(seed);
        int[] link = ints(x, "linkAt");
        int slot = heldSlot(x, 6, seed);
        while (link[slot] != 0) {
            slot = link[slot];
        }
        link[slot] = freeSlot(x, 6);
        Checks.due("a link to a free slot in table 6: sound()", x.sound(), false);
    }

    private static void linkToNowhere(int engine, int seed) throws Exception {
        for (int nowhere : new int[] {-1, 512, 513, Integer.MIN_VALUE, Integer.MAX_VALUE}) {
            HashSuite x = filled(seed);
            int[] link = ints(x, "linkAt");
            int slot = heldSlot(x, engine, seed);
            while (link[slot] != 0) {
                slot = link[slot];
            }
            link[slot] = nowhere;
            String what = "the link " + nowhere + " in table " + engine;
            Checks.due(what + ": sound()", x.sound(), false);
            for (int key = 0; key < 90; key++) {
                String call = what + ": has(" + engine + ", " + key + ")";
                Checks.due(call, x.has(engine, key), x.has(0, key));
            }
        }
    }

    private static void spoilBits(int seed) throws Exception {
        HashSuite x = filled(seed);
        int[] link = ints(x, "linkAt");
        int slot = 7 * REGION + seed % 32;
        link[slot] |= 1 << 31;
        Checks.due("a bit too many in table 7: sound()", x.sound(), false);
    }

    private static void scatterMoves(int engine) throws Exception {
        HashSuite x = filled(1);
        int[] before = ints(x, "keyAt").clone();
        int[] linkBefore = ints(x, "linkAt").clone();
        x.scatter(123456789);
        int from = engine * REGION;
        boolean same = Arrays.equals(before, from, from + REGION, ints(x, "keyAt"), from, from + REGION)
                && Arrays.equals(linkBefore, from, from + REGION, ints(x, "linkAt"), from, from + REGION);
        Checks.due("8 scatter leaves table " + engine + " as it was", same, false);
        Checks.due("8 scatter: sound()", x.sound(), true);
    }

    private static void spoilLink(int engine, int seed) throws Exception {
        HashSuite x = filled(seed);
        int[] link = ints(x, "linkAt");
        int slot = engine * REGION;
        while (link[slot] == 0) {
            slot++;
        }
        link[slot] = 0;
        Checks.due("a link in table " + engine + ": sound()", x.sound(), false);
    }

    private static void spoilSize(int seed) throws Exception {
        HashSuite x = filled(seed);
        field("held").setInt(x, x.size() + 1);
        Checks.due("the size: sound()", x.sound(), false);
    }

    /** Rule 7: no call may ever throw or fail to end, for any arguments in any state. */
    private static void anyStateAnswers(int seed) throws Exception {
        Random random = new Random(seed);
        HashSuite x = new HashSuite();
        // Few keys and links that often lead somewhere, so that the calls get deep into the tables.
        int keys = 1 + random.nextInt(100);
        int nowhere = random.nextInt(10);
        for (int slot = 0; slot < 8 * REGION; slot++) {
            ints(x, "keyAt")[slot] = random.nextInt(keys);
            marks(x)[slot] = (byte) (random.nextInt(50) == 0 ? random.nextInt() : random.nextInt(3));
            ints(x, "linkAt")[slot] =
                    random.nextInt(10) < nowhere ? random.nextInt() : random.nextInt(8 * REGION);
        }
        field("held").setInt(x, random.nextInt(4) == 0 ? random.nextInt() : random.nextInt(25));
        field("way").setInt(x, random.nextInt());
        for (int call = 0; call < 40; call++) {
            int one = random.nextInt(10) == 0 ? random.nextInt() : random.nextInt(keys);
            int two = random.nextInt(10) == 0 ? random.nextInt() : random.nextInt(keys);
            try {
                ask(x, random.nextInt(15), one, two);
            } catch (RuntimeException e) {
                Checks.threw("rule 7, any state: " + one + ", " + two, e);
            }
        }
    }

    private static void ask(HashSuite x, int what, int one, int two) {
        switch (what) {
            case 0 -> x.put(one, two);
            case 1 -> x.remove(one);
            case 2 -> x.add(one, two);
            case 3 -> x.move(one, two);
            case 4 -> x.sift(one & 15, two & 7);
            case 5 -> x.clear();
            case 6 -> x.scatter(one);
            case 7 -> x.size();
            case 8 -> x.has(one & 7, two);
            case 9 -> x.get(one & 7, two);
            case 10 -> x.count(one, two);
            case 11 -> x.sum(one);
            case 12 -> x.least();
            case 13 -> x.agree(one & 7, two & 7);
            default -> x.sound();
        }
    }
}
