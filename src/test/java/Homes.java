import java.lang.reflect.Method;

/** Finds keys that a new object scatters to the same place: the worst case for every table. */
final class Homes {
    private static final HashSuite FRESH = new HashSuite();
    private static final Method HOME = method("home");
    private static final Method OTHER_HOME = method("otherHome");

    private Homes() {
    }

    private static Method method(String name) {
        try {
            Method found = HashSuite.class.getDeclaredMethod(name, int.class);
            found.setAccessible(true);
            return found;
        } catch (NoSuchMethodException e) {
            throw new IllegalStateException(e);
        }
    }

    static int home(int key) throws Exception {
        return (int) HOME.invoke(FRESH, key);
    }

    static int otherHome(int key) throws Exception {
        return (int) OTHER_HOME.invoke(FRESH, key);
    }

    /** Keys from this one on that have its home. */
    static void fillWithOneHome(int[] keys, int from) throws Exception {
        int home = home(from);
        int key = from;
        for (int i = 0; i < keys.length; key++) {
            if (home(key) == home) {
                keys[i++] = key;
            }
        }
    }

    /** Keys from this one on that have both its homes. */
    static void fillWithBothHomes(int[] keys, int from) throws Exception {
        int home = home(from);
        int otherHome = otherHome(from);
        int key = from;
        for (int i = 0; i < keys.length; key++) {
            if (home(key) == home && otherHome(key) == otherHome) {
                keys[i++] = key;
            }
        }
    }
}
