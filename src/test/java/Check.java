import java.lang.reflect.InvocationTargetException;
import java.lang.reflect.Method;
import java.util.Arrays;
import java.util.Comparator;

/** What the tests share: telling texts by feed and end, and counting answers that are not as due. */
final class Check {
    private int wrong = 0;
    private int asked = 0;
    private final String name;

    Check(String name) {
        this.name = name;
    }

    void due(String call, long got, long want) {
        asked++;
        if (got != want) {
            wrong++;
            System.out.println(name + ": " + call + " answered " + got + ", due is " + want);
        }
    }

    void due(String call, boolean got, boolean want) {
        due(call, got ? 1 : 0, want ? 1 : 0);
    }

    int wrong() {
        return wrong;
    }

    void end() {
        System.out.println(name + ": " + asked + " answers, " + wrong + " not as due");
        if (wrong != 0) {
            System.exit(1);
        }
    }

    /** Runs each test of a class, which is a method named after its promise, with a Check of that name. */
    static void runAll(Class<?> tests) {
        int failed = 0;
        int run = 0;
        for (Method test : testsOf(tests)) {
            Check c = new Check(test.getName());
            c.run(test);
            run++;
            failed += c.wrong > 0 ? 1 : 0;
        }
        System.out.println(tests.getName() + ": " + run + " tests, " + failed + " failed");
        if (failed != 0 || run == 0) {
            System.exit(1);
        }
    }

    static Method[] testsOf(Class<?> tests) {
        return Arrays.stream(tests.getDeclaredMethods())
            .filter(m -> m.getName().matches("promise[0-9]{2}.*"))
            .sorted(Comparator.comparing(Method::getName))
            .toArray(Method[]::new);
    }

    private void run(Method test) {
        try {
            test.invoke(null, this);
        } catch (InvocationTargetException e) {
            due("threw " + e.getCause(), 1, 0);
        } catch (IllegalAccessException e) {
            due("can't be run: " + e, 1, 0);
        }
        if (asked == 0) {
            due("asks nothing", 0, 1);
        }
    }

    /** Puts a text on the tape, which must be empty. */
    static void feed(QuarrelOvens x, String text) {
        for (int at = 0; at < text.length(); at += 20) {
            int[] n = new int[5];
            for (int i = 0; i < 20; i++) {
                int sign = at + i < text.length() ? text.charAt(at + i) & 255 : 0;
                n[i / 4] |= sign << 24 - 8 * (i % 4);
            }
            x.feed(n[0], n[1], n[2], n[3], n[4]);
        }
        x.end(text.length());
    }

    static int tell(QuarrelOvens x, int sort, int at, String text) {
        feed(x, text);
        return x.text(sort, at);
    }

    static QuarrelOvens village(String text) {
        QuarrelOvens x = new QuarrelOvens();
        if (tell(x, 0, -1, text) != 0) {
            throw new IllegalStateException("not a village: " + text + " fault " + x.fault(0) + " at " + x.fault(1));
        }
        return x;
    }

    static QuarrelOvens day(String village, String day) {
        QuarrelOvens x = village(village);
        if (tell(x, 1, -1, day) != 0) {
            throw new IllegalStateException("not a day: " + day);
        }
        return x;
    }

    static QuarrelOvens log(String village, String log) {
        QuarrelOvens x = village(village);
        if (tell(x, 2, -1, log) != 0) {
            throw new IllegalStateException("not a log: " + log);
        }
        return x;
    }
}
