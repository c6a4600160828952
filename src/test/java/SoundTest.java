import java.lang.reflect.Field;
import java.util.Random;

/**
 * agree and sound look at the tables themselves: a table that is spoilt from outside is noticed.
 * Through the public face they can't be seen to answer anything but true.
 */
public final class SoundTest {
    private static final int REGION = 64;

    public static void main(String[] args) throws Exception {
        for (int engine = 0; engine < 8; engine++) {
            for (int seed = 0; seed < 200; seed++) {
                spoilValue(engine, seed);
                spoilKey(engine, seed);
                spoilMark(engine, seed);
            }
        }
        for (int seed = 0; seed < 200; seed++) {
            spoilLink(5, seed);
            spoilLink(7, seed);
            spoilSize(seed);
        }
        Checks.end();
    }

    private static HashSuite filled(int seed) {
        HashSuite x = new HashSuite();
        Random random = new Random(seed);
        for (int i = 0; i < 60; i++) {
            x.put(random.nextInt(90), random.nextInt(5));
            x.remove(random.nextInt(90));
        }
        x.put(1000, 3);
        Checks.due("sound() before", x.sound(), true);
        return x;
    }

    private static Field field(String name) throws Exception {
        Field f = HashSuite.class.getDeclaredField(name);
        f.setAccessible(true);
        return f;
    }

    private static int[] ints(HashSuite x, String name) throws Exception {
        return (int[]) field(name).get(x);
    }

    private static byte[] marks(HashSuite x) throws Exception {
        return (byte[]) field("markAt").get(x);
    }

    private static int heldSlot(HashSuite x, int engine, int seed) throws Exception {
        byte[] mark = marks(x);
        int slot = new Random(seed).nextInt(REGION);
        while (mark[engine * REGION + slot] != 1) {
            slot = (slot + 1) % REGION;
        }
        return engine * REGION + slot;
    }

    private static void isNoticed(String what, HashSuite x, int engine) {
        int other = (engine + 3) % 8;
        Checks.due(what + ": sound()", x.sound(), false);
        Checks.due(what + ": agree, spoilt first", x.agree(engine, other), false);
        Checks.due(what + ": agree, spoilt second", x.agree(other, engine), false);
        Checks.due(what + ": agree of two others", x.agree(other, (engine + 5) % 8), true);
    }

    private static void spoilValue(int engine, int seed) throws Exception {
        HashSuite x = filled(seed);
        ints(x, "valueAt")[heldSlot(x, engine, seed)]++;
        isNoticed("a value in table " + engine, x, engine);
    }

    private static void spoilKey(int engine, int seed) throws Exception {
        HashSuite x = filled(seed);
        ints(x, "keyAt")[heldSlot(x, engine, seed)] += 5000;
        isNoticed("a key in table " + engine, x, engine);
    }

    private static void spoilMark(int engine, int seed) throws Exception {
        HashSuite x = filled(seed);
        marks(x)[heldSlot(x, engine, seed)] = 0;
        isNoticed("a mark in table " + engine, x, engine);
    }

    private static void spoilLink(int engine, int seed) throws Exception {
        HashSuite x = filled(seed);
        int[] link = ints(x, "linkAt");
        int slot = engine * REGION;
        while (link[slot] == 0) {
            slot++;
        }
        link[slot] = 0;
        Checks.due("a link in table " + engine + ": sound()", x.sound(), false);
    }

    private static void spoilSize(int seed) throws Exception {
        HashSuite x = filled(seed);
        field("held").setInt(x, x.size() + 1);
        Checks.due("the size: sound()", x.sound(), false);
    }
}
