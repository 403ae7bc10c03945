import java.lang.reflect.InvocationTargetException;
import java.lang.reflect.Method;
import java.lang.reflect.Modifier;
import java.util.Map;
import java.util.TreeMap;

/** What the tests of sentences share: answers are compared with those that are due. */
class Checks {
    static final int NONE = -1;
    static final String NO_SUCH = "throws.NoSuchElementException";
    static final String ARGUMENT = "throws.IllegalArgumentException";
    static final String STATE = "throws.IllegalStateException";

    private static final int ROWS_SHOWN = 200;

    private static String test = "";
    private static int wrong = 0;
    private static int compared = 0;

    interface Call {
        Object answer();
    }

    /** What a call answers, or "throws." and the name of the very class that it throws. */
    static String answerOf(Call call) {
        try {
            return String.valueOf(call.answer());
        } catch (RuntimeException e) {
            return "throws." + e.getClass().getSimpleName();
        }
    }

    static void due(String what, Object got, Object want) {
        compared++;
        if (!String.valueOf(got).equals(String.valueOf(want))) {
            wrong++;
            if (wrong <= ROWS_SHOWN) {
                System.out.println(test + ": " + what + " answered " + got + ", due is " + want);
            }
        }
    }

    static void dueOf(String what, Object want, Call call) {
        due(what, answerOf(call), want);
    }

    /** Runs each test of a class, and ends with exit code 1 if an answer was not as due. */
    static void runAll(Class<?> tests) {
        Map<String, Method> byName = new TreeMap<>();
        for (Method method : tests.getDeclaredMethods()) {
            if (isTest(method)) {
                byName.put(method.getName(), method);
            }
        }
        for (Map.Entry<String, Method> each : byName.entrySet()) {
            test = tests.getSimpleName() + "." + each.getKey();
            run(each.getValue());
        }
        System.out.println(byName.size() + " tests, " + compared + " answers, " + wrong + " not as due");
        if (wrong != 0 || byName.isEmpty()) {
            System.exit(1);
        }
    }

    /** The tests are the methods that are not private and take and answer nothing. */
    private static boolean isTest(Method method) {
        int modifiers = method.getModifiers();
        return Modifier.isStatic(modifiers) && !Modifier.isPrivate(modifiers) && !method.isSynthetic()
                && method.getParameterCount() == 0 && method.getReturnType() == void.class;
    }

    private static void run(Method method) {
        int ahead = compared;
        try {
            method.invoke(null);
        } catch (InvocationTargetException e) {
            due("the test itself", "throws." + e.getCause(), "nothing thrown");
        } catch (IllegalAccessException e) {
            due("the test itself", e, "a test that can be run");
        }
        if (compared == ahead) {
            due("the test itself", "nothing compared", "something compared");
        }
    }

    // --- numbers that are no index below a limit

    /**
     * Numbers that are none of 0 .. limit - 1: the nearest ones, the greatest and the least, and
     * those that an index reckoned from them, a shift or a cut to fewer bits would take for one
     * that is.
     */
    static int[] outside(int limit) {
        return new int[] {-1, -2, -limit, limit, limit + 1, 2 * limit, 64, 256, 65536, 1 << 28, 1 << 29, 1 << 30,
            -32, -256, -(1 << 28), -(1 << 30), Integer.MIN_VALUE, Integer.MIN_VALUE + 1, Integer.MAX_VALUE};
    }

    /** The same without NONE, where that may stand for a value. */
    static int[] outsideButNone(int limit) {
        int[] all = outside(limit);
        int[] but = new int[all.length - 1];
        System.arraycopy(all, 1, but, 0, but.length);
        return but;
    }
}
