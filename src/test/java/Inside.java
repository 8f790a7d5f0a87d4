import java.lang.reflect.Array;
import java.lang.reflect.Field;
import java.lang.reflect.Modifier;

/**
 * Reaches into an object. It breaks it: a theorem holds in every run of calls, so whether it
 * is looked at can be seen on a broken object alone. And it pictures it, to see that a refused
 * call has changed nothing, without the many calls that asking for everything would take.
 */
final class Inside {
    private Inside() {
    }

    private static Field field(Object object, String name) throws ReflectiveOperationException {
        Field field = object.getClass().getDeclaredField(name);
        field.setAccessible(true);
        return field;
    }

    /** What is found by a path of names and indices, such as masters 1 scheduler. */
    static Object get(Object object, String path) throws ReflectiveOperationException {
        Object at = object;
        for (String step : path.split(" ")) {
            at = Character.isDigit(step.charAt(0)) ? Array.get(at, Integer.parseInt(step)) : field(at, step).get(at);
        }
        return at;
    }

    static void set(Object object, String path, int number) throws ReflectiveOperationException {
        int cut = path.lastIndexOf(' ');
        Object at = cut < 0 ? object : get(object, path.substring(0, cut));
        String last = path.substring(cut + 1);
        if (Character.isDigit(last.charAt(0))) {
            Array.set(at, Integer.parseInt(last), number);
        } else {
            field(at, last).setInt(at, number);
        }
    }

    static int number(Object object, String path) throws ReflectiveOperationException {
        return (Integer) get(object, path);
    }

    static void setPlace(Object object, String path, int place, Object value) throws ReflectiveOperationException {
        Array.set(get(object, path), place, value);
    }

    /** All that an object holds, as a text: two pictures are the same only if nothing has changed. */
    static String picture(Object object) {
        StringBuilder text = new StringBuilder();
        try {
            draw(object, text);
        } catch (ReflectiveOperationException e) {
            throw new IllegalStateException(e);
        }
        return text.toString();
    }

    private static void draw(Object object, StringBuilder text) throws ReflectiveOperationException {
        if (object == null || object instanceof Number || object instanceof Boolean) {
            text.append(object).append(' ');
        } else if (object.getClass().isArray()) {
            text.append('[');
            for (int k = 0; k < Array.getLength(object); k++) {
                draw(Array.get(object, k), text);
            }
            text.append(']');
        } else {
            text.append('{');
            for (Field field : object.getClass().getDeclaredFields()) {
                if (!Modifier.isStatic(field.getModifiers())) {
                    field.setAccessible(true);
                    draw(field.get(object), text);
                }
            }
            text.append('}');
        }
    }
}
