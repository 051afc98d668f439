import java.lang.reflect.Method;
import java.lang.reflect.Modifier;
import java.util.Arrays;
import java.util.Comparator;

/** Compares answers with those that are due, prints those that differ, and ends a test. */
final class Checks {
    private static final int PRINTED_AT_MOST = 50;

    private int asked = 0;
    private int wrong = 0;
    private String where = "";

    void due(String call, long want, long got) {
        asked++;
        if (got != want) {
            fail(call + " answered " + got + ", due is " + want);
        }
    }

    void holds(String what, boolean isSo) {
        due(what, 1, isSo ? 1 : 0);
    }

    int wrongSoFar() {
        return wrong;
    }

    /** Runs each method of a test that is not private: so none that is written can be forgotten. */
    void runAll(Object test) throws ReflectiveOperationException {
        Method[] methods = test.getClass().getDeclaredMethods();
        Arrays.sort(methods, Comparator.comparing(Method::getName));
        for (Method method : methods) {
            if (isTest(method)) {
                run(test, method);
            }
        }
        end();
    }

    static boolean isTest(Method method) {
        int modifiers = method.getModifiers();
        return !Modifier.isStatic(modifiers) && !Modifier.isPrivate(modifiers) && !method.isSynthetic();
    }

    private void run(Object test, Method method) throws ReflectiveOperationException {
        int ahead = asked;
        where = method.getName() + ": ";
        method.invoke(test);
        if (asked == ahead) {
            fail("asks nothing");
        }
    }

    private void fail(String what) {
        wrong++;
        if (wrong <= PRINTED_AT_MOST) {
            System.out.println(where + what);
        }
    }

    void end() {
        System.out.println(asked + " answers, " + wrong + " not as due");
        if (asked == 0 || wrong != 0) {
            System.exit(1);
        }
    }
}
