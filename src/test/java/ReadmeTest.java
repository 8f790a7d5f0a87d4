import java.io.IOException;
import java.lang.reflect.InvocationTargetException;
import java.lang.reflect.Method;
import java.nio.file.Files;
import java.nio.file.Path;
import java.util.List;
import java.util.TreeSet;
import java.util.regex.Matcher;
import java.util.regex.Pattern;

/** README.md: its example is run, with the answers beside the calls; what it names is there. */
final class ReadmeTest {
    private static final Pattern MADE = Pattern.compile("HerdMasters herd = new HerdMasters\\((\\d+)\\);\\s*// .*");
    private static final Pattern CALL = Pattern.compile("herd\\.(\\w+)\\((.*)\\);\\s*// (-?\\d+|true|false): (.*)");
    private static final Pattern ROW = Pattern.compile("\\| `(?:new )?(\\w+)\\((.*)\\)` \\|.*");
    private static final Pattern CLASS_NAMED = Pattern.compile("`([A-Z][a-z]\\w*)`");
    private static final Pattern TESTS_NAMED = Pattern.compile("`(\\w+)\\.\\.Test`");

    public static void main(String[] args) throws IOException, ReflectiveOperationException {
        String text = Files.readString(Path.of("README.md"));
        theExample(text);
        theCalls(text);
        theOrders(text);
        theNames(text);
        everyTestIsNamed(text);
        Due.end();
    }

    private static String between(String text, String begin, String end) {
        int at = text.indexOf(begin) + begin.length();
        return text.substring(at, text.indexOf(end, at));
    }

    private static void theExample(String text) throws ReflectiveOperationException {
        HerdMasters herd = null;
        TreeSet<String> called = new TreeSet<>();
        for (String line : between(text, "```java\n", "```").split("\n")) {
            Matcher made = MADE.matcher(line);
            Matcher call = CALL.matcher(line);
            if (made.matches()) {
                herd = new HerdMasters(Integer.parseInt(made.group(1)));
                continue;
            }
            Due.is("the example can be run: " + line, call.matches() && herd != null, true);
            String got = String.valueOf(answer(herd, call.group(1), call.group(2)));
            Due.is("the example, " + line + " (answered " + got + ")", got.equals(call.group(3)), true);
            theWordsBeside(line, got, call.group(4));
            called.add(call.group(1));
        }
        Due.is("calls of the example: " + called, called.containsAll(List.of("order", "change", "up", "agree")), true);
    }

    /** Where BAD, OPEN or NOT_HERE stands beside a call, it is that answer. */
    private static void theWordsBeside(String line, String got, String words) throws ReflectiveOperationException {
        for (String name : List.of("BAD", "OPEN", "NOT_HERE")) {
            if (words.startsWith(name)) {
                int constant = HerdMasters.class.getField(name).getInt(null);
                Due.is("the example, " + line + " is " + name, got.equals(String.valueOf(constant)), true);
            }
        }
    }

    private static Method method(String name) {
        for (Method method : HerdMasters.class.getMethods()) {
            if (method.getName().equals(name) && method.getDeclaringClass() == HerdMasters.class) {
                return method;
            }
        }
        throw new IllegalArgumentException("the face has no " + name);
    }

    private static Object answer(HerdMasters herd, String name, String numbers)
            throws IllegalAccessException, InvocationTargetException {
        String[] parts = numbers.isEmpty() ? new String[0] : numbers.split(", ");
        Object[] values = new Object[parts.length];
        for (int i = 0; i < parts.length; i++) {
            boolean isTruth = parts[i].equals("true") || parts[i].equals("false");
            values[i] = isTruth ? (Object) Boolean.valueOf(parts[i]) : (Object) Integer.valueOf(parts[i]);
        }
        return method(name).invoke(herd, values);
    }

    /** The table of calls has every method of the face with as many parameters, and no other. */
    private static void theCalls(String text) {
        TreeSet<String> due = new TreeSet<>();
        due.add("HerdMasters 1");
        for (Method method : HerdMasters.class.getDeclaredMethods()) {
            if (java.lang.reflect.Modifier.isPublic(method.getModifiers())) {
                due.add(method.getName() + " " + method.getParameterCount());
            }
        }
        TreeSet<String> found = new TreeSet<>();
        for (String line : between(text, "### The calls\n", "### The orders").split("\n")) {
            Matcher row = ROW.matcher(line);
            if (row.matches()) {
                found.add(row.group(1) + " " + (row.group(2).isEmpty() ? 0 : row.group(2).split(", ").length));
            }
        }
        Due.is("calls told: " + found + ", of the face: " + due, found.equals(due), true);
    }

    /** The table of orders has a row for each kind from 0 on, and none for the first one that answers - 1. */
    private static void theOrders(String text) {
        String table = between(text, "### The orders\n", "## Inside");
        for (int kind = 0; kind <= 8; kind++) {
            HerdMasters herd = new HerdMasters(3);
            herd.order(0, 0, 1, 2, 0, 1, 0, -1, 40);
            boolean isOne = herd.order(0, 0, 2, kind, 0, 1, 0, -1, 40) != -1 || kind == 1;
            Due.is("a row of orders " + kind, table.contains("\n| " + kind + " | "), isOne);
        }
    }

    private static void theNames(String text) {
        TreeSet<String> inside = new TreeSet<>();
        for (Class<?> own : HerdMasters.class.getDeclaredClasses()) {
            inside.add(own.getSimpleName());
            Due.is("told of " + own.getSimpleName(), text.contains("`" + own.getSimpleName() + "`"), true);
        }
        Matcher named = CLASS_NAMED.matcher(text);
        while (named.find()) {
            String name = named.group(1);
            Due.is(name + " is there", inside.contains(name) || Files.exists(file(name)), true);
        }
        for (String path : List.of(".ci/run", "src/main/java/HerdMasters.java")) {
            Due.is(path + " is told of", text.contains("\n" + path + "\n") || text.contains("`" + path + "`"), true);
            Due.is(path + " is there", Files.exists(Path.of(path)), true);
        }
        Due.is(".ci/run can be run", Files.isExecutable(Path.of(".ci/run")), true);
    }

    private static Path file(String name) {
        return Path.of("src/test/java", name + ".java");
    }

    /** No test of the project is left out: by its name, or by how a row of names begins (P01.. to P12..). */
    private static void everyTestIsNamed(String text) throws IOException {
        TreeSet<String> begins = new TreeSet<>();
        Matcher rows = TESTS_NAMED.matcher(text);
        while (rows.find()) {
            begins.add(rows.group(1));
        }
        try (var files = Files.list(Path.of("src/test/java"))) {
            for (Path path : (Iterable<Path>) files.sorted()::iterator) {
                String name = path.getFileName().toString().replace(".java", "");
                boolean isInRow = name.matches("P\\d\\d.*") && begins.contains("P01") && begins.contains("P12");
                for (String begin : begins) {
                    isInRow |= name.startsWith(begin);
                }
                boolean isNamed = isInRow || text.contains("`" + name + "`");
                Due.is("README.md tells of " + name, isNamed || !name.endsWith("Test"), true);
            }
        }
    }
}
