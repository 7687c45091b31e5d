import java.lang.reflect.InvocationTargetException;
import java.lang.reflect.Method;
import java.util.ArrayList;
import java.util.Comparator;
import java.util.List;

/**
 * Runs the tests of a class: each static method whose name begins with the number of a promise, as
 * p07ChildHoldsThreeAtMost(Check), is a test of its own, on objects of its own.
 */
final class Cases {
    private Cases() { }

    /** Runs them all and ends the program; each promise from first to last must have a test. */
    static void runAll(Class<?> tests, int first, int last) {
        Check check = new Check();
        List<Method> found = inOrder(tests);
        for (int promise = first; promise <= last; promise++) {
            check.begin(tests.getSimpleName());
            check.isTrue("there is a test for promise " + promise, has(found, promise));
        }
        for (Method test : found) {
            check.begin(test.getName());
            run(test, check);
            check.isTrue("the test asks something", check.askedSinceBegin() > 0);
        }
        System.out.println(found.size() + " tests");
        check.end();
    }

    private static List<Method> inOrder(Class<?> tests) {
        List<Method> found = new ArrayList<>();
        for (Method method : tests.getDeclaredMethods()) {
            if (method.getName().matches("p[0-9][0-9][A-Z]\\w*")) {
                found.add(method);
            }
        }
        found.sort(Comparator.comparing(Method::getName));
        return found;
    }

    private static boolean has(List<Method> found, int promise) {
        String start = String.format("p%02d", promise);
        return found.stream().anyMatch(test -> test.getName().startsWith(start));
    }

    /** An exception out of the class is a fault as well: no call may throw. */
    private static void run(Method test, Check check) {
        try {
            test.invoke(null, check);
        } catch (InvocationTargetException e) {
            e.getCause().printStackTrace(System.out);
            check.isTrue("no exception: " + e.getCause(), false);
        } catch (IllegalAccessException e) {
            throw new IllegalStateException(e);
        }
    }
}
