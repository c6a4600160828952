/** Each promise of the document by itself: ordinary inputs, the named edges and wrong inputs. */
public final class PromiseTest {
    private static final int MIN = Integer.MIN_VALUE;
    private static final int MAX = Integer.MAX_VALUE;
    private static final int[] NO_ENGINES = {-1, 8, 9, 64, -8, 256, MIN, MAX};

    public static void main(String[] args) {
        newObject();
        put();
        remove();
        add();
        move();
        sift();
        siftRefuses();
        clear();
        scatter();
        size();
        has();
        get();
        count();
        sum();
        least();
        agree();
        sound();
        refusalsChangeNothing();
        Checks.end();
    }

    /** 24 keys 100, 110 .. 330 with the values 0 .. 23. */
    private static HashSuite full() {
        HashSuite x = new HashSuite();
        for (int i = 0; i < 24; i++) {
            Checks.due("1/2 filling put", x.put(100 + 10 * i, i), i + 1);
        }
        return x;
    }

    private static void holds(String when, HashSuite x, int key, int value) {
        for (int e = 0; e < 8; e++) {
            Checks.due(when + ": has(" + e + ", " + key + ")", x.has(e, key), true);
            Checks.due(when + ": get(" + e + ", " + key + ")", x.get(e, key), value);
        }
    }

    private static void lacks(String when, HashSuite x, int key) {
        for (int e = 0; e < 8; e++) {
            Checks.due(when + ": has(" + e + ", " + key + ")", x.has(e, key), false);
            Checks.due(when + ": get(" + e + ", " + key + ")", x.get(e, key), 0);
        }
    }

    private static void isWhole(String when, HashSuite x, int size, int sum) {
        Checks.due(when + ": size()", x.size(), size);
        Checks.due(when + ": sound()", x.sound(), true);
        for (int e = 0; e < 8; e++) {
            Checks.due(when + ": sum(" + e + ")", x.sum(e), sum);
            Checks.due(when + ": agree(0, " + e + ")", x.agree(0, e), true);
        }
    }

    private static void newObject() {
        HashSuite x = new HashSuite();
        isWhole("1 new", x, 0, 0);
        for (int key : new int[] {0, 1, -1, MIN, MAX}) {
            lacks("1 new", x, key);
        }
        for (int e = 0; e < 8; e++) {
            Checks.due("1 new count(" + e + ", 0)", x.count(e, 0), 0);
        }
        Checks.due("1 new least()", x.least(), 0);
        Checks.due("1 new remove(0)", x.remove(0), false);
        Checks.due("1 new clear()", x.clear(), 0);

        HashSuite other = new HashSuite();
        other.put(1, 1);
        Checks.due("1 objects share nothing", x.size(), 0);
        lacks("1 objects share nothing", x, 1);
    }

    private static void put() {
        HashSuite x = new HashSuite();
        Checks.due("2 FULL", HashSuite.FULL, -1);
        Checks.due("2 put(7, 70)", x.put(7, 70), 1);
        Checks.due("2 put(-7, 71)", x.put(-7, 71), 2);
        Checks.due("2 put(7, 72) again", x.put(7, 72), 2);
        holds("2 in place", x, 7, 72);
        holds("2 beside", x, -7, 71);
        Checks.due("2 put(0, 0)", x.put(0, 0), 3);
        holds("2 key 0, value 0", x, 0, 0);
        Checks.due("2 put(MIN, MAX)", x.put(MIN, MAX), 4);
        Checks.due("2 put(MAX, MIN)", x.put(MAX, MIN), 5);
        holds("2 edge", x, MIN, MAX);
        holds("2 edge", x, MAX, MIN);
        Checks.due("2 put(5, FULL)", x.put(5, -1), 6);
        holds("2 value -1", x, 5, -1);

        HashSuite y = full();
        Checks.due("2 a 25th key", y.put(1, 1), HashSuite.FULL);
        lacks("2 a 25th key", y, 1);
        isWhole("2 a 25th key", y, 24, 276);
        Checks.due("2 in place when full", y.put(330, 100), 24);
        holds("2 in place when full", y, 330, 100);
        Checks.due("2 remove makes room", y.remove(100), true);
        Checks.due("2 in the room", y.put(1, 5), 24);
        holds("2 in the room", y, 1, 5);
        Checks.due("2 full again", y.put(100, 1), HashSuite.FULL);
    }

    private static void remove() {
        HashSuite x = new HashSuite();
        x.put(3, 30);
        x.put(4, 40);
        Checks.due("3 remove(3)", x.remove(3), true);
        lacks("3 removed", x, 3);
        holds("3 the other one", x, 4, 40);
        isWhole("3 removed", x, 1, 40);
        Checks.due("3 remove(3) again", x.remove(3), false);
        Checks.due("3 remove(0), never there", x.remove(0), false);
        isWhole("3 nothing removed", x, 1, 40);
        x.put(0, 0);
        Checks.due("3 remove(0) with value 0", x.remove(0), true);
        x.put(MIN, 1);
        Checks.due("3 remove(MIN)", x.remove(MIN), true);
        Checks.due("3 put(3, 31) anew", x.put(3, 31), 2);
        holds("3 anew", x, 3, 31);

        HashSuite y = full();
        for (int i = 0; i < 24; i++) {
            Checks.due("3 emptying", y.remove(100 + 10 * i), true);
            Checks.due("3 emptying sound", y.sound(), true);
            Checks.due("3 emptying size", y.size(), 23 - i);
        }
    }

    private static void add() {
        HashSuite x = new HashSuite();
        Checks.due("4 add(9, 5) to none", x.add(9, 5), 1);
        holds("4 to none", x, 9, 5);
        Checks.due("4 add(9, -7)", x.add(9, -7), 1);
        holds("4 below 0", x, 9, -2);
        Checks.due("4 add(9, 2)", x.add(9, 2), 1);
        holds("4 value 0 stays a value", x, 9, 0);
        Checks.due("4 add(10, 0) to none", x.add(10, 0), 2);
        holds("4 0 to none", x, 10, 0);
        x.put(11, MAX);
        Checks.due("4 add wraps", x.add(11, 1), 3);
        holds("4 wraps", x, 11, MIN);
        x.add(11, MIN);
        holds("4 wraps back", x, 11, 0);
        x.put(12, 8);
        x.remove(12);
        x.add(12, 1);
        holds("4 a removed value is gone", x, 12, 1);

        HashSuite y = full();
        Checks.due("4 a 25th key", y.add(1, 1), HashSuite.FULL);
        Checks.due("4 a 25th key, d = 0", y.add(1, 0), HashSuite.FULL);
        lacks("4 a 25th key", y, 1);
        Checks.due("4 to a key when full", y.add(110, 4), 24);
        holds("4 to a key when full", y, 110, 5);
        isWhole("4 when full", y, 24, 280);
    }

    private static void move() {
        HashSuite x = new HashSuite();
        x.put(1, 10);
        x.put(2, 20);
        Checks.due("5 move(1, 3)", x.move(1, 3), true);
        lacks("5 moved", x, 1);
        holds("5 moved", x, 3, 10);
        isWhole("5 moved", x, 2, 30);
        Checks.due("5 move(3, 2) onto one", x.move(3, 2), true);
        lacks("5 moved onto", x, 3);
        holds("5 moved onto", x, 2, 10);
        isWhole("5 moved onto", x, 1, 10);
        Checks.due("5 move(2, 2)", x.move(2, 2), false);
        holds("5 the same", x, 2, 10);
        Checks.due("5 move(5, 5), none", x.move(5, 5), false);
        Checks.due("5 move(5, 2), none", x.move(5, 2), false);
        holds("5 none", x, 2, 10);
        lacks("5 none", x, 5);
        isWhole("5 refused", x, 1, 10);
        x.put(2, 0);
        Checks.due("5 move(2, MIN) with value 0", x.move(2, MIN), true);
        holds("5 value 0", x, MIN, 0);

        HashSuite y = full();
        Checks.due("5 move when full", y.move(120, 1), true);
        holds("5 when full", y, 1, 2);
        lacks("5 when full", y, 120);
        isWhole("5 when full", y, 24, 276);
    }

    private static void sift() {
        HashSuite x = new HashSuite();
        for (int key = -6; key <= 6; key++) {
            x.put(key, 100 + key);
        }
        Checks.due("6 BAD", HashSuite.BAD, -2);
        Checks.due("6 sift(3, 1)", x.sift(3, 1), 4);
        for (int key = -6; key <= 6; key++) {
            if (Math.floorMod(key, 3) == 1) {
                lacks("6 sifted", x, key);
            } else {
                holds("6 left", x, key, 100 + key);
            }
        }
        Checks.due("6 sift(3, 1) again", x.sift(3, 1), 0);
        Checks.due("6 sift(1000, 999), only -1", x.sift(1000, 999), 1);
        lacks("6 rest of a key below 0", x, -1);
        Checks.due("6 sift(1000, 0), only 0", x.sift(1000, 0), 1);
        lacks("6 rest 0", x, 0);
        Checks.due("6 sound", x.sound(), true);
        Checks.due("6 sift(1, 0), all", x.sift(1, 0), 7);
        isWhole("6 all", x, 0, 0);

        HashSuite y = new HashSuite();
        y.put(MIN, 1);
        y.put(MAX, 2);
        Checks.due("6 sift(2, 0) of MIN", y.sift(2, 0), 1);
        lacks("6 MIN", y, MIN);
        Checks.due("6 sift(1000, 647) of MAX", y.sift(1000, 647), 1);
        y.put(MIN, 1);
        Checks.due("6 sift(1000, 352) of MIN", y.sift(1000, 352), 1);
        isWhole("6 ends", y, 0, 0);
        Checks.due("6 all of a full one", full().sift(10, 0), 24);
    }

    private static void siftRefuses() {
        HashSuite x = full();
        x.remove(100);
        x.put(0, 0);
        int[][] bad = {{0, 0}, {-1, 0}, {1001, 0}, {MIN, 0}, {MAX, 0}, {1, 1}, {1, -1}, {10, 10},
            {10, -1}, {1000, 1000}, {1000, MIN}, {1000, MAX}, {-5, -5}, {0, -1}, {-1, -2}};
        for (int[] b : bad) {
            Checks.due("6 sift(" + b[0] + ", " + b[1] + ")", x.sift(b[0], b[1]), HashSuite.BAD);
            Checks.due("6 BAD changes nothing", x.size(), 24);
        }
        isWhole("6 BAD", x, 24, 276);
    }

    private static void clear() {
        HashSuite x = full();
        Checks.due("7 clear()", x.clear(), 24);
        isWhole("7 cleared", x, 0, 0);
        lacks("7 cleared", x, 100);
        Checks.due("7 clear() again", x.clear(), 0);
        Checks.due("7 put after", x.put(100, 5), 1);
        holds("7 put after", x, 100, 5);
        isWhole("7 put after", x, 1, 5);
    }

    private static void scatter() {
        int[] ways = {0, 1, -1, 31, 32, 7954, MIN, MAX, 0x9E3779B1};
        HashSuite x = full();
        for (int way : ways) {
            x.scatter(way);
            isWhole("8 scatter(" + way + ")", x, 24, 276);
        }
        for (int i = 0; i < 24; i += 5) {
            holds("8 scattered", x, 100 + 10 * i, i);
        }
        Checks.due("8 still full", x.put(1, 1), HashSuite.FULL);
        Checks.due("8 least()", x.least(), 100);
        HashSuite y = new HashSuite();
        for (int way : ways) {
            y.scatter(way);
            isWhole("8 scatter of none", y, 0, 0);
            Checks.due("8 put after", y.put(4, way), 1);
            holds("8 put after", y, 4, way);
            Checks.due("8 remove after", y.remove(4), true);
        }
    }

    private static void size() {
        HashSuite x = new HashSuite();
        Checks.due("9 none", x.size(), 0);
        x.put(1, 0);
        Checks.due("9 a value 0 counts", x.size(), 1);
        x.put(1, 5);
        Checks.due("9 in place", x.size(), 1);
        x.add(2, 0);
        Checks.due("9 added", x.size(), 2);
        x.move(1, 2);
        Checks.due("9 moved onto", x.size(), 1);
        x.remove(2);
        Checks.due("9 removed", x.size(), 0);
        Checks.due("9 at the limit", full().size(), 24);
    }

    private static void has() {
        HashSuite x = new HashSuite();
        x.put(0, 0);
        x.put(8, 1);
        for (int e = 0; e < 8; e++) {
            Checks.due("10 has(e, 0)", x.has(e, 0), true);
            Checks.due("10 has(e, 8)", x.has(e, 8), true);
            Checks.due("10 has(e, 1)", x.has(e, 1), false);
        }
        for (int e : NO_ENGINES) {
            Checks.due("10 has(" + e + ", 0)", x.has(e, 0), false);
        }
    }

    private static void get() {
        HashSuite x = new HashSuite();
        x.put(0, 6);
        x.put(8, -6);
        for (int e = 0; e < 8; e++) {
            Checks.due("11 get(e, 0)", x.get(e, 0), 6);
            Checks.due("11 get(e, 8)", x.get(e, 8), -6);
            Checks.due("11 get(e, 1)", x.get(e, 1), 0);
        }
        for (int e : NO_ENGINES) {
            Checks.due("11 get(" + e + ", 0)", x.get(e, 0), 0);
        }
    }

    private static void count() {
        HashSuite x = new HashSuite();
        x.put(1, 5);
        x.put(2, 5);
        x.put(3, 0);
        x.put(4, -2);
        for (int e = 0; e < 8; e++) {
            Checks.due("12 count(e, 5)", x.count(e, 5), 2);
            Checks.due("12 count(e, 0)", x.count(e, 0), 1);
            Checks.due("12 count(e, -2)", x.count(e, -2), 1);
            Checks.due("12 count(e, 1)", x.count(e, 1), 0);
        }
        x.remove(2);
        x.put(3, MIN);
        for (int e = 0; e < 8; e++) {
            Checks.due("12 after remove count(e, 5)", x.count(e, 5), 1);
            Checks.due("12 after put count(e, 0)", x.count(e, 0), 0);
            Checks.due("12 count(e, MIN)", x.count(e, MIN), 1);
        }
        for (int e : NO_ENGINES) {
            Checks.due("12 count(" + e + ", 5)", x.count(e, 5), HashSuite.BAD);
        }
        HashSuite y = new HashSuite();
        for (int i = 0; i < 24; i++) {
            y.put(i * 32, 7);
        }
        for (int e = 0; e < 8; e++) {
            Checks.due("12 all the same", y.count(e, 7), 24);
        }
    }

    private static void sum() {
        HashSuite x = new HashSuite();
        x.put(1, 5);
        x.put(2, -8);
        x.put(3, 5);
        for (int e = 0; e < 8; e++) {
            Checks.due("13 sum(e)", x.sum(e), 2);
        }
        for (int e : NO_ENGINES) {
            Checks.due("13 sum(" + e + ")", x.sum(e), 0);
        }
        x.put(2, MAX);
        for (int e = 0; e < 8; e++) {
            Checks.due("13 wraps", x.sum(e), MIN + 9);
        }
    }

    private static void least() {
        HashSuite x = new HashSuite();
        x.put(50, 1);
        Checks.due("14 above 0", x.least(), 50);
        x.put(MAX, 1);
        Checks.due("14 beside MAX", x.least(), 50);
        x.remove(50);
        Checks.due("14 only MAX", x.least(), MAX);
        x.put(-3, 9);
        Checks.due("14 below 0", x.least(), -3);
        x.put(-2, -9);
        Checks.due("14 keys, not values", x.least(), -3);
        x.put(MIN, 1);
        Checks.due("14 MIN", x.least(), MIN);
        x.move(MIN, -4);
        Checks.due("14 moved", x.least(), -4);
        x.clear();
        Checks.due("14 none", x.least(), 0);
    }

    private static void agree() {
        HashSuite x = full();
        for (int e = 0; e < 8; e++) {
            for (int o = 0; o < 8; o++) {
                Checks.due("15 agree(" + e + ", " + o + ")", x.agree(e, o), true);
            }
        }
        for (int e : NO_ENGINES) {
            Checks.due("15 agree(" + e + ", 0)", x.agree(e, 0), false);
            Checks.due("15 agree(0, " + e + ")", x.agree(0, e), false);
            Checks.due("15 agree(" + e + ", the same)", x.agree(e, e), false);
            Checks.due("15 agree of none", new HashSuite().agree(e, e), false);
        }
    }

    private static void sound() {
        HashSuite x = new HashSuite();
        Checks.due("16 new", x.sound(), true);
        for (int i = 0; i < 100; i++) {
            x.put(i * 64, i);
            Checks.due("16 put", x.sound(), true);
            x.remove((i - 9) * 64);
            Checks.due("16 remove", x.sound(), true);
        }
        x.scatter(5);
        Checks.due("16 scatter", x.sound(), true);
        x.sift(3, 0);
        Checks.due("16 sift", x.sound(), true);
        x.clear();
        Checks.due("16 clear", x.sound(), true);
    }

    private static void refusalsChangeNothing() {
        HashSuite x = full();
        Checks.due("17 put", x.put(MIN, 9), HashSuite.FULL);
        Checks.due("17 add", x.add(MIN, 9), HashSuite.FULL);
        Checks.due("17 remove", x.remove(MIN), false);
        Checks.due("17 move from none", x.move(MIN, 100), false);
        Checks.due("17 move to the same", x.move(100, 100), false);
        Checks.due("17 sift", x.sift(0, 0), HashSuite.BAD);
        Checks.due("17 count", x.count(8, 0), HashSuite.BAD);
        x.has(-1, 100);
        x.get(-1, 100);
        x.sum(-1);
        x.agree(-1, 0);
        isWhole("17 refused", x, 24, 276);
        Checks.due("17 least()", x.least(), 100);
        for (int i = 0; i < 24; i++) {
            int e = i % 8;
            Checks.due("17 get", x.get(e, 100 + 10 * i), i);
            Checks.due("17 has", x.has(e, 100 + 10 * i), true);
        }
    }
}
