import java.lang.reflect.InvocationTargetException;
import java.lang.reflect.Method;
import java.util.Arrays;
import java.util.Comparator;
import java.util.regex.Matcher;
import java.util.regex.Pattern;

/**
 * The boundary cases that the document names, each with a test of its own: a method whose name begins with its
 * promise. What a text may hold stands with promise 3 (loom), what happens on a DAY with promise 10 (days).
 */
public final class EdgeTest {
    private static final Class<?>[] EDGES =
        {EdgesOfTexts.class, EdgesOfLooms.class, EdgesOfDays.class, EdgesAhead.class, EdgesOfSongs.class, EdgesOfChance.class};
    private static final Pattern NAME = Pattern.compile("promise(\\d+)[A-Z].*");
    private static final int PROMISES = 42;

    public static void main(String[] args) throws IllegalAccessException {
        Checks check = new Checks();
        int[] tests = new int[PROMISES + 1];
        for (Class<?> edges : EDGES) {
            Method[] methods = edges.getDeclaredMethods();
            Arrays.sort(methods, Comparator.comparing(Method::getName));
            for (Method method : methods) {
                Matcher name = NAME.matcher(method.getName());
                if (name.matches()) {
                    tests[Integer.parseInt(name.group(1))]++;
                    run(check, method);
                }
            }
        }
        check.topic("every promise");
        for (int promise = 1; promise <= PROMISES; promise++) {
            check.due("promise " + promise + " has a test of its edges", 1, tests[promise] > 0 ? 1 : 0);
        }
        System.out.println("EdgeTest: " + Arrays.stream(tests).sum() + " tests");
        check.close("EdgeTest");
    }

    private static void run(Checks check, Method method) throws IllegalAccessException {
        check.topic(method.getName());
        try {
            method.invoke(null, check);
        } catch (InvocationTargetException e) {
            check.due("threw " + e.getCause(), 0, 1);
        }
    }
}
