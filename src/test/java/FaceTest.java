import java.lang.reflect.Constructor;
import java.lang.reflect.Executable;
import java.lang.reflect.Field;
import java.lang.reflect.Method;
import java.lang.reflect.Modifier;
import java.util.TreeSet;

/** The face is the document's: every constant, constructor and method of it, and no other that can be seen. */
final class FaceTest {
    private static final String[] FACE = {
        "int BAD", "int OPEN", "int NOT_HERE", "HerdMasters(int)",
        "boolean link(int, int, boolean)", "boolean up(int, boolean)", "int change(int, int)",
        "int order(int, int, int, int, int, int, int, int, int)", "int told(int, int)", "int log(int, int, int)",
        "int task(int, int, int)", "int worker(int, int, int)", "int used(int, int)", "boolean agree()", "int count(int)"};

    public static void main(String[] args) {
        TreeSet<String> found = new TreeSet<>();
        for (Field f : HerdMasters.class.getDeclaredFields()) {
            if (!Modifier.isPrivate(f.getModifiers())) {
                found.add(f.getType() + " " + f.getName());
                Due.is(f + " is a public constant", f.getModifiers(), Modifier.PUBLIC | Modifier.STATIC | Modifier.FINAL);
            }
        }
        for (Constructor<?> c : HerdMasters.class.getDeclaredConstructors()) {
            add(found, c, c.getName());
        }
        for (Method m : HerdMasters.class.getDeclaredMethods()) {
            add(found, m, m.getReturnType() + " " + m.getName());
        }
        for (String name : FACE) {
            Due.is("the face has " + name, found.remove(name), true);
        }
        Due.is("others: " + found, found.size(), 0);
        Due.is("the class", HerdMasters.class.getModifiers(), Modifier.PUBLIC | Modifier.FINAL);
        Due.is("BAD", HerdMasters.BAD, -1);
        Due.is("OPEN", HerdMasters.OPEN, -2);
        Due.is("NOT_HERE", HerdMasters.NOT_HERE, -3);
        Due.end();
    }

    private static void add(TreeSet<String> found, Executable e, String name) {
        if (Modifier.isPrivate(e.getModifiers())) {
            return;
        }
        StringBuilder text = new StringBuilder(name).append('(');
        for (Class<?> type : e.getParameterTypes()) {
            text.append(text.charAt(text.length() - 1) == '(' ? "" : ", ").append(type);
        }
        found.add(text.append(')').toString());
        Due.is(e + " is public", e.getModifiers(), Modifier.PUBLIC);
    }
}
