import java.lang.reflect.Method;
import java.lang.reflect.Modifier;
import java.util.ArrayList;
import java.util.Arrays;
import java.util.Comparator;
import java.util.List;
import java.util.Random;

/** What a call answers does not depend on what was asked before it: a new object that is told the same answers the same. */
final class FreshTest {
    private static final Check CHECK = new Check("FreshTest");
    private static final Random R = new Random(11);
    /** Those that change what is told, and are not asked here. */
    private static final List<String> TELLING = List.of("feed", "end", "text", "image", "again");

    public static void main(String[] args) throws ReflectiveOperationException {
        List<Method> methods = new ArrayList<>();
        for (Method m : QuarrelOvens.class.getDeclaredMethods()) {
            if (Modifier.isPublic(m.getModifiers()) && !m.isSynthetic() && !TELLING.contains(m.getName())) methods.add(m);
        }
        methods.sort(Comparator.comparing(Method::getName));
        CHECK.due("methods", methods.size(), 29);
        for (int round = 0; round < 120 && CHECK.wrong() < 10; round++) run(methods);
        CHECK.end();
    }

    private static void run(List<Method> methods) throws ReflectiveOperationException {
        String[] texts = new String[6];
        for (int i = 0; i < 2; i++) {
            int people = R.nextInt(9);
            int subjects = R.nextInt(7);
            int hearths = R.nextInt(5);
            texts[i] = OracleTest.village(people, subjects, hearths);
            texts[2 + i] = OracleTest.day(people, subjects, hearths);
            texts[4 + i] = log(texts[i]);
        }
        QuarrelOvens used = told(texts);
        for (int call = 0; call < 400; call++) {
            Method m = methods.get(R.nextInt(methods.size()));
            Object[] values = new Object[m.getParameterCount()];
            for (int i = 0; i < values.length; i++) values[i] = value(m.getParameterTypes()[i], i);
            String name = m.getName() + Arrays.toString(values) + " of " + Arrays.toString(texts);
            CHECK.due(name, number(m.invoke(used, values)), number(m.invoke(told(texts), values)));
        }
    }

    private static String log(String village) {
        try {
            return OracleTest.log(Oracle.village(village));
        } catch (Oracle.Fault f) {
            throw new IllegalStateException(village, f);
        }
    }

    private static QuarrelOvens told(String[] texts) {
        QuarrelOvens x = new QuarrelOvens();
        for (int i = 0; i < texts.length; i++) Check.tell(x, i / 2, QuarrelOvens.NONE, texts[i]);
        return x;
    }

    private static Object value(Class<?> type, int place) {
        if (type == boolean.class) return R.nextBoolean();
        if (place == 0) return R.nextInt(2);
        return R.nextInt(8) == 0 ? R.nextInt(180) : R.nextInt(9) - 1;
    }

    private static long number(Object answer) {
        return answer instanceof Boolean b ? (b ? 1 : 0) : ((Number) answer).longValue();
    }
}
