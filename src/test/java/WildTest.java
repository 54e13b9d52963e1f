import java.lang.reflect.InvocationTargetException;
import java.lang.reflect.Method;
import java.lang.reflect.Modifier;
import java.util.ArrayList;
import java.util.Comparator;
import java.util.List;
import java.util.Random;

/** Any arguments in any state: no call throws, and the same calls give the same answers. */
final class WildTest {
    private static final Check CHECK = new Check("WildTest");
    private static final Random R = new Random(35);
    private static final int[] EXTREMES = {
        Integer.MIN_VALUE, Integer.MIN_VALUE + 1, Integer.MAX_VALUE, Integer.MAX_VALUE - 1, -1000, -100, -10, -2, 599, 600, 601, 1 << 16
    };
    private static final String[] TEXTS = {
        "", "people 8;", "people 2;subject 9 9;hearth 1 1;holds 0 0 0;holds 1 0 9;",
        "people 8;cools 0;subject 9 1;subject 1 9;subject 5 5;subject 9 9;subject 1 1;subject 8 3;hearth 60 99;hearth 1 99;hearth 1 1;hearth 9 60;"
            + "holds 0 0 0;holds 1 0 9;holds 2 0 4;holds 3 0 5;holds 4 0 1;holds 5 0 8;holds 6 0 9;holds 7 0 0;"
            + "holds 0 1 0;holds 1 2 9;holds 2 3 4;holds 3 4 5;holds 4 5 1;holds 5 1 8;holds 6 2 9;holds 7 3 0;"
            + "holds 4 1 3;holds 5 2 3;holds 6 3 7;holds 7 4 2;holds 0 5 1;",
        "quarrel 0 1 0 0;hour;quarrel 7 6 5 3;", "news 0 5;news 5 9;deny 0 1 0;hour;quarrel 0 1 0 0;", "agree 0 1 0;deny 7 0 5;hour;hour;",
        "burned 0 1 81;", "burned 6 7 0;burned 0 7 0;burned 1 2 9;", "hour;hour", "people 99;", "holds 7 5 9;"
    };

    public static void main(String[] args) throws IllegalAccessException {
        List<Method> methods = new ArrayList<>();
        for (Method m : QuarrelOvens.class.getDeclaredMethods()) {
            if (Modifier.isPublic(m.getModifiers()) && !m.isSynthetic()) methods.add(m);
        }
        methods.sort(Comparator.comparing(Method::getName));
        CHECK.due("methods", methods.size(), 34);
        for (int run = 0; run < 1500 && CHECK.wrong() < 10; run++) run(methods);
        CHECK.end();
    }

    private static void run(List<Method> methods) throws IllegalAccessException {
        QuarrelOvens x = new QuarrelOvens();
        QuarrelOvens y = new QuarrelOvens();
        for (int call = 0; call < 512; call++) {
            if (R.nextInt(6) == 0) {
                String text = TEXTS[R.nextInt(TEXTS.length)];
                int sort = R.nextInt(3);
                int at = R.nextInt(3) - 1;
                CHECK.due("text", tell(x, text, sort, at), tell(y, text, sort, at));
                continue;
            }
            Method m = methods.get(R.nextInt(methods.size()));
            Object[] values = new Object[m.getParameterCount()];
            for (int i = 0; i < values.length; i++) values[i] = m.getParameterTypes()[i] == boolean.class ? (Object) R.nextBoolean() : (Object) number();
            String told = m.getName() + java.util.Arrays.toString(values);
            CHECK.due(told, ask(x, m, values, told), ask(y, m, values, told));
        }
    }

    private static int number() {
        int kind = R.nextInt(10);
        if (kind < 6) return R.nextInt(4) - 1;
        if (kind == 6) return R.nextInt(12) - 2;
        if (kind == 7) return R.nextInt(210) - 5;
        return kind == 8 ? EXTREMES[R.nextInt(EXTREMES.length)] : R.nextInt();
    }

    private static int tell(QuarrelOvens x, String text, int sort, int at) {
        x.end(0);
        return Check.tell(x, sort, at, text);
    }

    private static long ask(QuarrelOvens x, Method m, Object[] values, String told) throws IllegalAccessException {
        try {
            Object answer = m.invoke(x, values);
            return answer instanceof Boolean b ? (b ? 1 : 0) : ((Number) answer).longValue();
        } catch (InvocationTargetException e) {
            CHECK.due(told + " threw " + e.getCause(), 1, 0);
            return 0;
        }
    }
}
