import java.lang.reflect.InvocationTargetException;
import java.lang.reflect.Method;
import java.util.Arrays;
import java.util.Comparator;

/** A test: each of its methods that bears @Case is run on an object of its own, and reported by its name. */
abstract class Cases {
    static final String STATE = "IllegalStateException";
    static final String ARGUMENT = "IllegalArgumentException";

    private int checks = 0;
    private int wrong = 0;

    /** Runs all cases of a test and ends it, with exit code 1 if one failed or there is none. */
    static void run(Class<? extends Cases> test) {
        Method[] methods = test.getDeclaredMethods();
        Arrays.sort(methods, Comparator.comparing(Method::getName));
        int cases = 0;
        int failed = 0;
        for (Method method : methods) {
            if (method.isAnnotationPresent(Case.class)) {
                cases++;
                failed += holds(test, method) ? 0 : 1;
            }
        }
        System.out.println(cases + " cases, " + failed + " failed");
        System.exit(failed != 0 || cases == 0 ? 1 : 0);
    }

    private static boolean holds(Class<? extends Cases> test, Method method) {
        try {
            Cases object = test.getDeclaredConstructor().newInstance();
            method.invoke(object);
            // A case that checks nothing would pass whatever the program does.
            if (object.wrong == 0 && object.checks > 0) {
                return true;
            }
        } catch (InvocationTargetException e) {
            System.out.println("  it was ended by " + e.getCause());
        } catch (ReflectiveOperationException e) {
            System.out.println("  it can't be run: " + e);
        }
        String words = method.getAnnotation(Case.class).value();
        System.out.println("FAILED " + test.getName() + "." + method.getName() + ": " + words);
        return false;
    }

    void same(String what, long got, long want) {
        same(what, Long.toString(got), Long.toString(want));
    }

    void same(String what, String got, String want) {
        checks++;
        if (!got.equals(want)) {
            wrong++;
            System.out.println("  " + what + " answered " + got + ", due is " + want);
        }
    }

    void thrown(String exception, String what, Runnable call) {
        same(what, outcome(call), exception);
    }

    private static String outcome(Runnable call) {
        try {
            call.run();
            return "nothing thrown";
        } catch (RuntimeException e) {
            return e.getClass().getSimpleName();
        }
    }
}
