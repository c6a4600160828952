import java.lang.reflect.Constructor;
import java.lang.reflect.Field;
import java.lang.reflect.Method;
import java.lang.reflect.Modifier;
import java.util.Set;
import java.util.TreeSet;

/** The class shows what the document's face names, as it names it, and nothing more. */
public final class FaceTest {
    public static void main(String[] args) {
        Set<String> want = new TreeSet<>(Set.of(
                "public static final int FULL", "public static final int BAD",
                "public HashSuite()",
                "public int put(int,int)", "public boolean remove(int)", "public int add(int,int)",
                "public boolean move(int,int)", "public int sift(int,int)", "public int clear()",
                "public void scatter(int)", "public int size()", "public boolean has(int,int)",
                "public int get(int,int)", "public int count(int,int)", "public int sum(int)",
                "public int least()", "public boolean agree(int,int)", "public boolean sound()"));
        Set<String> got = new TreeSet<>();
        for (Field f : HashSuite.class.getDeclaredFields()) {
            if (!Modifier.isPrivate(f.getModifiers())) {
                got.add(f.toString().replace("HashSuite.", ""));
            }
        }
        for (Constructor<?> c : HashSuite.class.getDeclaredConstructors()) {
            if (!Modifier.isPrivate(c.getModifiers())) {
                got.add(c.toString());
            }
        }
        for (Method m : HashSuite.class.getDeclaredMethods()) {
            if (!Modifier.isPrivate(m.getModifiers())) {
                got.add(m.toString().replace("HashSuite.", ""));
            }
        }
        for (String member : want) {
            Checks.due("there: " + member, got.contains(member), true);
        }
        for (String member : got) {
            Checks.due("in the document: " + member, want.contains(member), true);
        }
        Checks.due("the class is public and final",
                Modifier.toString(HashSuite.class.getModifiers()).equals("public final"), true);
        Checks.end();
    }
}
