import java.lang.reflect.InvocationTargetException;
import java.lang.reflect.Method;
import java.util.Map;
import java.util.TreeMap;

/** Runs the tests of a class: its methods named after a promise, as promise02SoilTooSmall. */
final class Suite {
    private Suite() {
    }

    static void run(Class<?> tests, int... promises) throws IllegalAccessException {
        Check check = new Check();
        Map<String, Method> named = new TreeMap<>();
        int[] found = new int[30];
        for (Method method : tests.getDeclaredMethods()) {
            if (method.getName().matches("promise\\d\\d[A-Z]\\w*")) {
                named.put(method.getName(), method);
                found[Integer.parseInt(method.getName().substring(7, 9))]++;
            }
        }
        for (Map.Entry<String, Method> test : named.entrySet()) {
            runOne(check, test.getKey(), test.getValue());
        }
        check.begin(tests.getSimpleName());
        for (int promise : promises) {
            check.due("promise " + promise + " has a test", Math.min(found[promise], 1), 1);
        }
        check.end(tests.getSimpleName() + ", " + named.size() + " tests");
    }

    private static void runOne(Check check, String name, Method test) throws IllegalAccessException {
        int before = check.asked();
        check.begin(name);
        try {
            test.invoke(null, check);
        } catch (InvocationTargetException thrown) {
            check.fail("threw " + thrown.getCause());
        }
        if (check.asked() == before) {
            check.fail("asked nothing");
        }
    }
}
