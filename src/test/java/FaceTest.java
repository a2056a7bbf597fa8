import java.io.IOException;
import java.lang.reflect.Constructor;
import java.lang.reflect.Field;
import java.lang.reflect.Method;
import java.lang.reflect.Modifier;
import java.nio.charset.StandardCharsets;
import java.nio.file.Files;
import java.nio.file.Path;
import java.util.ArrayList;
import java.util.Arrays;
import java.util.List;
import java.util.Set;
import java.util.TreeSet;
import java.util.regex.Matcher;
import java.util.regex.Pattern;

/** The public face as the document tells it, and the rules of LANGUAGE.md that a machine can look at. */
public final class FaceTest {
    private static final Checks CHECK = new Checks();
    private static final Path SOURCE = Path.of("src/main/java/RibLoom.java");
    private static final Path DOCUMENT = Path.of("../shared/DOC.md");

    public static void main(String[] args) throws IOException {
        face();
        members();
        source();
        room();
        CHECK.close("FaceTest");
    }

    private static void same(String what, Object want, Object got) {
        CHECK.due(what + ": " + got + " for " + want, 1, want.equals(got) ? 1 : 0);
    }

    private static void face() throws IOException {
        CHECK.topic("the public face");
        Set<String> due = new TreeSet<>();
        Matcher m = Pattern.compile("^    public (\\w+) (\\w+)\\((.*?)\\)(?: throws ([\\w, ]+))?;", Pattern.MULTILINE)
            .matcher(Files.readString(DOCUMENT));
        while (m.find()) {
            due.add(m.group(1) + " " + m.group(2) + "(" + m.group(3).replaceAll(" \\w+(?=,|$)", "") + ") "
                + (m.group(4) == null ? "" : m.group(4)));
        }
        Set<String> there = new TreeSet<>();
        for (Method method : RibLoom.class.getDeclaredMethods()) {
            if (!Modifier.isPrivate(method.getModifiers())) {
                there.add(method.getReturnType().getSimpleName() + " " + method.getName() + "("
                    + names(method.getParameterTypes()) + ") " + names(method.getExceptionTypes()));
            }
        }
        same("methods", due, there);
        CHECK.due("methods", 41, there.size());
    }

    private static String names(Class<?>[] types) {
        return String.join(", ", Arrays.stream(types).map(Class::getSimpleName).toList());
    }

    private static void members() {
        CHECK.topic("members");
        CHECK.due("final", 1, Modifier.isFinal(RibLoom.class.getModifiers()) ? 1 : 0);
        Constructor<?>[] constructors = RibLoom.class.getDeclaredConstructors();
        CHECK.due("constructors", 1, constructors.length);
        CHECK.due("of no parameters", 0, constructors[0].getParameterCount());
        Set<String> faceNames = new TreeSet<>();
        for (Method method : RibLoom.class.getMethods()) {
            if (method.getDeclaringClass() == RibLoom.class) {
                faceNames.add(method.getName());
            }
        }
        List<Class<?>> classes = new ArrayList<>(List.of(RibLoom.class.getDeclaredClasses()));
        CHECK.due("at most twelve classes", 1, classes.size() < 12 ? 1 : 0);
        classes.add(RibLoom.class);
        for (Class<?> c : classes) {
            int fields = 0;
            for (Field field : c.getDeclaredFields()) {
                boolean constant = Modifier.isStatic(field.getModifiers());
                fields += constant ? 0 : 1;
                same(c + " static is final: " + field, constant, constant && Modifier.isFinal(field.getModifiers()));
                boolean open = c == RibLoom.class && !Modifier.isPrivate(field.getModifiers());
                same("open field " + field.getName(), open, field.getName().equals("NONE"));
            }
            CHECK.due("fields of " + c, 1, fields <= 20 ? 1 : 0);
            for (Method method : c.getDeclaredMethods()) {
                boolean ofFace = c == RibLoom.class && Modifier.isPublic(method.getModifiers());
                CHECK.due("parameters of " + method, 1, method.getParameterCount() <= 7 ? 1 : 0);
                same("name of the face: " + method, ofFace, faceNames.contains(method.getName()));
            }
            CHECK.due(c + " is no inner one", 1,
                c == RibLoom.class || Modifier.isStatic(c.getModifiers()) ? 1 : 0);
        }
    }

    private static void source() throws IOException {
        CHECK.topic("the source");
        byte[] bytes = Files.readAllBytes(SOURCE);
        for (byte b : bytes) {
            if (b < 0) {
                CHECK.due("a sign above 127", 0, 1);
            }
        }
        String text = new String(bytes, StandardCharsets.US_ASCII);
        String code = text.replaceAll("(?s)/\\*.*?\\*/", "").replaceAll("//[^\n]*", "").replaceAll("\"[^\"\n]*\"", "\"\"");
        for (String banned : new String[] {"->", "::", "synchronized", "assert ", "finally", " try ", "catch", "Exact",
            "instanceof", "double", "float", "System.out", "Random", "package ", ".values()", "hashCode", "toString"}) {
            CHECK.due("'" + banned + "' in the source", -1, code.indexOf(banned));
        }
        Matcher imports = Pattern.compile("import ([\\w.]+);").matcher(code);
        CHECK.due("an import", 1, imports.find() ? 1 : 0);
        same("the import", "java.util.NoSuchElementException", imports.group(1));
        CHECK.due("another import", 0, imports.find() ? 1 : 0);
        Matcher thrown = Pattern.compile("throw (.*)").matcher(code);
        while (thrown.find()) {
            String t = thrown.group(1);
            CHECK.due("throw " + t, 1,
                t.matches("new (NoSuchElementException|IllegalArgumentException)\\(\"\"\\);") ? 1 : 0);
        }
        methodLengths(code);
    }

    private static void methodLengths(String code) {
        int begin = -1;
        String[] lines = code.split("\n", -1);
        for (int i = 0; i < lines.length; i++) {
            if (lines[i].matches("( {4}| {8})[\\w\\[\\]. ]+\\(.*\\{") || lines[i].matches(" {12}throws .*\\{")) {
                begin = i;
            }
            if (begin >= 0 && lines[i].matches("( {4}| {8})\\}")) {
                CHECK.due("lines of " + lines[begin].trim(), 1, i - begin < 60 ? 1 : 0);
                begin = -1;
            }
        }
    }

    /** A whole life of dear calls must leave most of the room to others. */
    private static void room() {
        CHECK.topic("room");
        com.sun.management.ThreadMXBean bean =
            (com.sun.management.ThreadMXBean) java.lang.management.ManagementFactory.getThreadMXBean();
        long id = Thread.currentThread().getId();
        RibLoom warm = new RibLoom();
        dearCalls(warm);
        long before = bean.getThreadAllocatedBytes(id);
        RibLoom x = new RibLoom();
        long made = bean.getThreadAllocatedBytes(id);
        dearCalls(x);
        long after = bean.getThreadAllocatedBytes(id);
        CHECK.due("a new object takes " + (made - before) + " bytes", 1, made - before < 40_000 ? 1 : 0);
        CHECK.due("its calls take " + (after - made) + " bytes", 1, after - made < 60_000 ? 1 : 0);
    }

    private static void dearCalls(RibLoom x) {
        for (int i = 0; i < 40; i++) {
            Checks.tell(x, "rib 9;jaw 8;rib 30;verse 1;verse 2;rots place;");
            x.days(20);
            x.image();
            x.look(0);
            x.strong(0);
            x.restore();
            x.order(0);
            x.toTell();
            x.widest();
            x.storms(0, 5, 5);
            x.years(1, 60, 0);
        }
    }
}
