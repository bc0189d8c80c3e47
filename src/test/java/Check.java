import java.lang.reflect.InvocationTargetException;
import java.lang.reflect.Method;
import java.lang.reflect.Modifier;
import java.util.Arrays;
import java.util.Comparator;

/** Counts the answers that are not due, prints them, and feeds texts. */
final class Check {
    private static final int MOST_PRINTED = 40;

    private int asked;
    private int wrong;
    private String test = "";
    private boolean testIsWrong;

    /** Runs all tests of a class, and ends the program as end() does. */
    void runAll(Class<?> tests) throws ReflectiveOperationException {
        run(tests);
        end();
    }

    /**
     * Runs each test of a class, which is each static method without parameters that is not private. One that throws
     * is wrong, but does not keep the others from being run.
     */
    void run(Class<?> tests) throws ReflectiveOperationException {
        Method[] methods = tests.getDeclaredMethods();
        Arrays.sort(methods, Comparator.comparing(Method::getName));
        for (Method m : methods) {
            if (Modifier.isStatic(m.getModifiers()) && !Modifier.isPrivate(m.getModifiers()) && m.getParameterCount() == 0) {
                int before = asked;
                test = m.getName() + ": ";
                testIsWrong = false;
                try {
                    m.invoke(null);
                } catch (InvocationTargetException e) {
                    tell("the test", "by throwing " + e.getCause(), "no throw");
                }
                due("an answer is looked at", asked > before || testIsWrong, true);
            }
        }
    }

    void due(String call, long got, long want) {
        asked++;
        if (got != want) {
            tell(call, "" + got, "" + want);
        }
    }

    void due(String call, boolean got, boolean want) {
        due(call, got ? 1 : 0, want ? 1 : 0);
    }

    void due(String call, String got, String want) {
        asked++;
        if (!got.equals(want)) {
            tell(call, got, want);
        }
    }

    private void tell(String call, String got, String want) {
        wrong++;
        if (wrong <= MOST_PRINTED || !testIsWrong) {
            System.out.println(test + call + " answered " + got + ", due is " + want);
        }
        testIsWrong = true;
    }

    /** What a new object that is fed a text says of it. */
    void fault(String text, int number, int place) {
        NoonRinger x = new NoonRinger();
        feed(x, text);
        due("read() of '" + text + "'", x.read(), number);
        due("place() of '" + text + "'", x.place(), place);
    }

    void good(String text) {
        fault(text, 0, NoonRinger.NONE);
    }

    int wrong() {
        return wrong;
    }

    /** Ends the program with 1 if an answer was not due. */
    void end() {
        System.out.println(asked + " answers looked at, " + wrong + " of them not as due");
        if (wrong != 0 || asked == 0) {
            System.exit(1);
        }
    }

    /** Feeds a text, twenty bytes at a time; what is too much at the end is taken back. */
    static void feed(NoonRinger x, String text) {
        int[] fours = Oracle.bytesOf(text);
        for (int i = 0; i < fours.length; i += 5) {
            x.feed(fours[i], fours[i + 1], fours[i + 2], fours[i + 3], fours[i + 4]);
        }
        x.back(fours.length * 4 - text.length());
    }

    /** A new object that has read a text, which must be without a fault. */
    static NoonRinger of(String text) {
        NoonRinger x = new NoonRinger();
        feed(x, text);
        int fault = x.read();
        if (fault != 0) {
            throw new IllegalStateException("fault " + fault + " at " + x.place() + " of: " + text);
        }
        return x;
    }

    /** All that calls can change, told as one; of as few calls as that needs, as an object is used for 512 at most. */
    static String all(NoonRinger x) {
        StringBuilder so = new StringBuilder();
        for (int what = 0; what < 17; what++) {
            so.append(x.count(what)).append(' ');
        }
        for (int person = 0; person < x.count(2); person++) {
            so.append("; person");
            for (int what = 2; what < 8; what++) {
                so.append(' ').append(x.person(person, what));
            }
        }
        return so.toString();
    }
}
