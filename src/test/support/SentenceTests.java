import java.lang.reflect.InvocationTargetException;
import java.lang.reflect.Method;
import java.util.Arrays;
import java.util.Comparator;

/** Runs all methods of a class that bear @Says, and tells each answer that is not as the words ask. */
final class SentenceTests {
    private static String current = "";
    private static int checks = 0;
    private static int wrong = 0;

    private SentenceTests() {
    }

    static void run(Class<?> tests) throws IllegalAccessException {
        int held = 0;
        Method[] methods = tests.getDeclaredMethods();
        Arrays.sort(methods, Comparator.comparing(Method::getName));
        for (Method test : methods) {
            if (test.isAnnotationPresent(Says.class)) {
                held += holds(test) ? 1 : 0;
            }
        }
        System.out.println(held + " sentences hold, by " + checks + " checks");
        if (wrong != 0) {
            System.out.println(wrong + " answers are not as due");
            System.exit(1);
        }
    }

    static void due(String what, long got, long want) {
        checks++;
        if (got != want) {
            tell(what + " answered " + got + ", due is " + want);
        }
    }

    static void dueBytes(String what, byte[] got, byte[] want) {
        checks++;
        if (!Arrays.equals(got, want)) {
            tell(what + " is " + Arrays.toString(got) + ", due is " + Arrays.toString(want));
        }
    }

    static void dueText(String what, String got, String want) {
        checks++;
        if (!got.equals(want)) {
            tell(what + " is\n" + got + "due is\n" + want);
        }
    }

    private static boolean holds(Method test) throws IllegalAccessException {
        Says says = test.getAnnotation(Says.class);
        current = says.in() + ", " + test.getName() + ", '" + String.join("' '", says.words()) + "': ";
        int wrongBefore = wrong;
        int checksBefore = checks;
        test.setAccessible(true);
        try {
            test.invoke(null);
        } catch (InvocationTargetException e) {
            e.getCause().printStackTrace(System.out);
            tell("it ended with " + e.getCause());
        }
        if (checks == checksBefore) {
            tell("the test looks at nothing");
        }
        return wrong == wrongBefore;
    }

    private static void tell(String what) {
        wrong++;
        System.out.println(current + what);
    }
}
