import java.lang.reflect.InvocationTargetException;
import java.lang.reflect.Method;
import java.lang.reflect.Modifier;
import java.util.Arrays;
import java.util.Comparator;

/** Runs the tests of a class, and tells each answer that is not the one that is due. */
final class Due {
    private static final int MOST_TOLD = 40;

    private static int wrong = 0;
    private static String test = "";

    private Due() {
    }

    /** Each static method without parameters is a test, so that none is forgotten. */
    static void run(Class<?> tests) {
        Method[] methods = tests.getDeclaredMethods();
        Arrays.sort(methods, Comparator.comparing(Method::getName));
        int number = 0;
        for (Method method : methods) {
            if (isTest(method)) {
                test = tests.getSimpleName() + "." + method.getName();
                number++;
                runOne(method);
            }
        }
        test = tests.getSimpleName();
        due("tests there are", number > 0 ? 1 : 0, 1);
        System.out.println(wrong == 0 ? number + " tests hold" : wrong + " answers are not as due");
        if (wrong != 0) {
            System.exit(1);
        }
    }

    private static boolean isTest(Method method) {
        int modifiers = method.getModifiers();
        return Modifier.isStatic(modifiers) && !Modifier.isPrivate(modifiers) && !method.isSynthetic()
            && method.getParameterCount() == 0;
    }

    private static void runOne(Method method) {
        try {
            method.invoke(null);
        } catch (InvocationTargetException thrown) {
            tell("threw " + thrown.getCause());
        } catch (IllegalAccessException thrown) {
            tell("cannot be run: " + thrown);
        }
    }

    private static void tell(String what) {
        wrong++;
        if (wrong <= MOST_TOLD) {
            System.out.println(test + ": " + what);
        }
    }

    static void due(String call, long got, long want) {
        if (got != want) {
            tell(call + " answered " + got + ", due is " + want);
        }
    }

    static void yes(String call, boolean got) {
        if (!got) {
            tell(call + " answered false, due is true");
        }
    }

    static void no(String call, boolean got) {
        if (got) {
            tell(call + " answered true, due is false");
        }
    }

    static void same(String what, Object got, Object want) {
        if (!got.equals(want)) {
            tell(what + " is " + got + ", due is " + want);
        }
    }
}
