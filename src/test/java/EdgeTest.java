import java.lang.reflect.Method;
import java.lang.reflect.Modifier;
import java.util.Arrays;
import java.util.Comparator;
import java.util.regex.Matcher;
import java.util.regex.Pattern;

/**
 * The boundary cases that the document names, a test for each sentence: the methods of these classes whose names begin
 * with p and the number of their promise.
 */
public final class EdgeTest {
    private static final Class<?>[] ALL = {TellEdges.class, TextEdges.class, LifeEdges.class, OrderEdges.class,
        TownEdges.class, OddsEdges.class};
    private static final Pattern NAME = Pattern.compile("p(\\d+)_\\w+");
    private static final int PROMISES = 31;

    public static void main(String[] args) throws ReflectiveOperationException {
        int[] tests = new int[PROMISES + 1];
        for (Class<?> one : ALL) {
            Method[] methods = one.getDeclaredMethods();
            Arrays.sort(methods, Comparator.comparing(Method::getName));
            for (Method m : methods) {
                Matcher name = NAME.matcher(m.getName());
                if (name.matches() && Modifier.isStatic(m.getModifiers())) {
                    run(m);
                    tests[Integer.parseInt(name.group(1))]++;
                }
            }
        }
        Due.begin("EdgeTest");
        int sum = 0;
        for (int p = 1; p <= PROMISES; p++) {
            Due.is("tests of promise " + p, tests[p] > 0, true);
            sum += tests[p];
        }
        System.out.println(sum + " tests of edges");
        Due.end();
    }

    private static void run(Method test) throws ReflectiveOperationException {
        Due.begin(test.getName());
        int before = Due.asked();
        test.invoke(null);
        Due.is("asked at all", Due.asked() > before, true);
    }
}
