import java.lang.reflect.InvocationTargetException;
import java.lang.reflect.Method;
import java.lang.reflect.Modifier;
import java.util.TreeMap;

/** Runs tests; counts and prints the answers that are not the ones that are due. */
final class Check {
    private static int wrong = 0;
    private static int checked = 0;

    private Check() {
    }

    static void due(String what, long got, long want) {
        checked++;
        if (got != want) {
            wrong++;
            System.out.println(what + " answered " + got + ", due is " + want);
        }
    }

    static void due(String what, boolean got, boolean want) {
        due(what, got ? 1L : 0L, want ? 1L : 0L);
    }

    static void due(String what, String got, String want) {
        checked++;
        if (!got.equals(want)) {
            wrong++;
            System.out.println(what + " answered " + got + ", due is " + want);
        }
    }

    /** Found by their form rather than listed, so that no test can be written and left out. */
    static void runTestsOf(Class<?> tests) {
        TreeMap<String, Method> found = new TreeMap<>();
        for (Method method : tests.getDeclaredMethods()) {
            boolean isStatic = Modifier.isStatic(method.getModifiers());
            if (isStatic && method.getParameterCount() == 0 && method.getReturnType() == void.class) {
                found.put(method.getName(), method);
            }
        }
        for (Method test : found.values()) {
            run(test);
        }
        System.out.println(found.size() + " tests run");
    }

    private static void run(Method test) {
        int wrongBefore = wrong;
        int checkedBefore = checked;
        try {
            test.setAccessible(true);
            test.invoke(null);
        } catch (InvocationTargetException | IllegalAccessException e) {
            wrong++;
            System.out.println(test.getName() + " ended with " + (e.getCause() == null ? e : e.getCause()));
        }
        due("checks made by " + test.getName() + ": any", checked > checkedBefore, true);
        if (wrong > wrongBefore) {
            System.out.println("failed test: " + test.getName());
        }
    }

    static void finish() {
        System.out.println(checked + " answers checked, " + wrong + " wrong");
        if (wrong != 0 || checked == 0) {
            System.exit(1);
        }
    }
}
