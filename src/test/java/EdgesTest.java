import java.lang.reflect.Method;
import java.util.Arrays;
import java.util.Comparator;

/**
 * Every boundary case of the document by a test of its own. A test is a method without parameters whose name begins with
 * its promise (p01_ .. p49_), or with terms_ for what the document says ahead of them; what fails is told under its name.
 */
public final class EdgesTest {
    private static final int PROMISES = 49;
    private static final Class<?>[] GROUPS = {TermsEdges.class, RowsEdges.class, FaultEdges.class, TextsEdges.class,
        WaysEdges.class, FilingEdges.class, CasesEdges.class, FitsEdges.class, ToldEdges.class};

    public static void main(String[] args) throws Exception {
        int[] tests = new int[PROMISES + 1];
        int terms = 0;
        for (Class<?> group : GROUPS) {
            Method[] methods = group.getDeclaredMethods();
            Arrays.sort(methods, Comparator.comparing(Method::getName));
            for (Method method : methods) {
                if (method.getName().matches("p\\d\\d_\\w+")) {
                    tests[Integer.parseInt(method.getName().substring(1, 3))]++;
                    run(method);
                } else if (method.getName().startsWith("terms_")) {
                    terms++;
                    run(method);
                }
            }
        }
        Check.under("EdgesTest");
        for (int promise = 1; promise <= PROMISES; promise++) {
            Check.holds("promise " + promise + " has tests", tests[promise] > 0);
        }
        Check.holds("terms have tests", terms > 0);
        System.out.println(Arrays.stream(tests).sum() + " tests of promises, " + terms + " of terms");
        Check.end();
    }

    /** A test that asks nothing would hold whatever the program does. */
    private static void run(Method method) throws Exception {
        int before = Check.answers();
        Check.under(method.getName());
        method.invoke(null);
        Check.holds("asks something", Check.answers() > before);
    }
}
