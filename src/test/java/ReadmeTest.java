import java.io.IOException;
import java.lang.reflect.InvocationTargetException;
import java.lang.reflect.Method;
import java.nio.charset.StandardCharsets;
import java.nio.file.Files;
import java.nio.file.Path;
import java.util.ArrayList;
import java.util.HashMap;
import java.util.List;
import java.util.Map;
import java.util.Set;
import java.util.TreeSet;
import java.util.regex.Matcher;
import java.util.regex.Pattern;

/** The examples of README.md: each call must answer, or throw, what stands behind it, and each method must have one. */
public final class ReadmeTest {
    private static final Checks CHECK = new Checks();
    private static final Pattern MADE = Pattern.compile("RibLoom (\\w+) = new RibLoom\\(\\);");
    private static final Pattern CALLED = Pattern.compile("(\\w+)\\.(\\w+)\\((.*?)\\);(?: +// (\\w+(?: \\w+Exception)?)(?:: (.+))?)?");
    private static final Pattern ANSWER = Pattern.compile("\\d+|NONE|true|false|throws \\w+");

    private final Map<String, RibLoom> looms = new HashMap<>();
    private final Set<String> shown = new TreeSet<>();

    public static void main(String[] args) throws IOException, IllegalAccessException {
        CHECK.topic("README.md");
        ReadmeTest test = new ReadmeTest();
        for (String line : examples()) {
            test.hold(line);
        }
        Set<String> face = new TreeSet<>();
        for (Method method : faceMethods()) {
            face.add(method.getName());
        }
        face.removeAll(test.shown);
        CHECK.due("methods without an example: " + face, 0, face.size());
        CHECK.close("ReadmeTest");
    }

    private static List<String> examples() throws IOException {
        List<String> lines = new ArrayList<>();
        boolean inside = false;
        for (String line : Files.readAllLines(Path.of("README.md"))) {
            if (line.startsWith("```")) {
                inside = line.equals("```java");
            } else if (inside && !line.isBlank()) {
                lines.add(line);
            }
        }
        return lines;
    }

    private static List<Method> faceMethods() {
        List<Method> methods = new ArrayList<>();
        for (Method method : RibLoom.class.getMethods()) {
            if (method.getDeclaringClass() == RibLoom.class) {
                methods.add(method);
            }
        }
        return methods;
    }

    private void hold(String line) throws IllegalAccessException {
        Matcher made = MADE.matcher(line);
        Matcher called = CALLED.matcher(line);
        if (made.matches()) {
            looms.put(made.group(1), new RibLoom());
        } else if (called.matches() && looms.containsKey(called.group(1))) {
            Method method = methodNamed(called.group(2));
            String[] told = called.group(3).isEmpty() ? new String[0] : called.group(3).split(", ");
            shown.add(called.group(2));
            String got = answer(looms.get(called.group(1)), method, told);
            String due = called.group(4);
            boolean readable = due == null ? method.getReturnType() == void.class : ANSWER.matcher(due).matches();
            CHECK.due(line + " can be read", 1, readable ? 1 : 0);
            CHECK.due(line + " answered " + got, 1, got.equals(due == null ? "nothing" : due) ? 1 : 0);
            if (method.getName().equals("feed")) {
                holdText(line, told, called.group(5));
            }
        } else {
            CHECK.due("no example: " + line, 0, 1);
        }
    }

    private static Method methodNamed(String name) {
        for (Method method : faceMethods()) {
            if (method.getName().equals(name)) {
                return method;
            }
        }
        throw new IllegalStateException("README.md shows " + name + ", which is not there");
    }

    private static String answer(RibLoom loom, Method method, String[] told) throws IllegalAccessException {
        Class<?>[] types = method.getParameterTypes();
        Object[] values = new Object[told.length];
        for (int i = 0; i < told.length; i++) {
            values[i] = types[i] == boolean.class ? (Object) told[i].equals("true") : (Object) number(told[i]);
        }
        try {
            Object got = method.invoke(loom, values);
            boolean none = got instanceof Integer n && n == RibLoom.NONE;
            return got == null ? "nothing" : none ? "NONE" : got.toString();
        } catch (InvocationTargetException e) {
            return "throws " + e.getCause().getClass().getSimpleName();
        }
    }

    private static int number(String told) {
        return told.equals("RibLoom.NONE") ? RibLoom.NONE : Integer.decode(told);
    }

    /** The text that is told behind a feed() must be the bytes that are fed. */
    private static void holdText(String line, String[] told, String text) {
        StringBuilder bytes = new StringBuilder("\"");
        for (String number : told) {
            int four = number(number);
            bytes.append(new String(new byte[] {(byte) (four >> 24), (byte) (four >> 16), (byte) (four >> 8), (byte) four},
                StandardCharsets.ISO_8859_1));
        }
        CHECK.due(line + " feeds " + bytes, 1, bytes.append('"').toString().equals(text) ? 1 : 0);
    }
}
