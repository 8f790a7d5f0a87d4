import java.lang.reflect.Array;
import java.lang.reflect.Field;

/**
 * Reaches into an object and breaks it: a theorem holds in every run of calls,
 * so whether it is looked at can be seen on a broken object alone.
 */
final class Inside {
    private Inside() {
    }

    private static Field field(Object object, String name) throws ReflectiveOperationException {
        Field field = object.getClass().getDeclaredField(name);
        field.setAccessible(true);
        return field;
    }

    /** What is found by a path of names and indices, such as masters 1 scheduler. */
    static Object get(Object object, String path) throws ReflectiveOperationException {
        Object at = object;
        for (String step : path.split(" ")) {
            at = Character.isDigit(step.charAt(0)) ? Array.get(at, Integer.parseInt(step)) : field(at, step).get(at);
        }
        return at;
    }

    static void set(Object object, String path, int number) throws ReflectiveOperationException {
        int cut = path.lastIndexOf(' ');
        Object at = cut < 0 ? object : get(object, path.substring(0, cut));
        String last = path.substring(cut + 1);
        if (Character.isDigit(last.charAt(0))) {
            Array.set(at, Integer.parseInt(last), number);
        } else {
            field(at, last).setInt(at, number);
        }
    }

    static int number(Object object, String path) throws ReflectiveOperationException {
        return (Integer) get(object, path);
    }

    static void setPlace(Object object, String path, int place, Object value) throws ReflectiveOperationException {
        Array.set(get(object, path), place, value);
    }
}
