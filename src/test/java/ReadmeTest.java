import java.io.IOException;
import java.lang.reflect.Method;
import java.lang.reflect.Modifier;
import java.nio.file.Files;
import java.nio.file.Path;
import java.util.Map;
import java.util.TreeMap;
import java.util.regex.Matcher;
import java.util.regex.Pattern;

/** What README.md says of calls and answers is so: its example is run line by line, its calls are those of the class. */
final class ReadmeTest {
    private static final Check CHECK = new Check("ReadmeTest");
    private static final Pattern ASKED = Pattern.compile("x\\.(\\w+)\\(([^)]*)\\); *// (-?\\d+).*");
    private static final Pattern TOLD = Pattern.compile("tell\\(x, (\\d), NONE, \"([^\"]*)\"\\); *// (-?\\d+).*");
    private static final Pattern CALL = Pattern.compile("`(\\w+)\\(([^)]*)\\)`");

    public static void main(String[] args) throws IOException, ReflectiveOperationException {
        String readme = Files.readString(Path.of("README.md"));
        tellAsItSays(readme);
        example(readme);
        calls(readme);
        CHECK.end();
    }

    /** Its method, which stands below, puts texts on the tape as Check does. */
    private static void tellAsItSays(String readme) throws IOException {
        String own = Files.readString(Path.of("src/test/java/ReadmeTest.java"));
        String method = block(readme, "static int tell");
        for (String line : method.split("\n")) CHECK.due("the method has '" + line + "'", own.contains("    " + line + "\n"), true);
        for (int length = 0; length <= 600; length++) {
            String text = "hour;\n".repeat(40).concat(" ".repeat(600)).substring(0, length);
            QuarrelOvens x = new QuarrelOvens();
            QuarrelOvens y = new QuarrelOvens();
            CHECK.due("told, " + length + " bytes", tell(x, 1, QuarrelOvens.NONE, text), Check.tell(y, 1, QuarrelOvens.NONE, text));
            CHECK.due("fault, " + length + " bytes", x.fault(1), y.fault(1));
            CHECK.due("deeds, " + length + " bytes", x.deed(0, QuarrelOvens.NONE, 0), y.deed(0, QuarrelOvens.NONE, 0));
        }
    }

    static int tell(QuarrelOvens x, int sort, int at, String text) {
        for (int i = 0; i < text.length(); i += 20) {
            int[] n = new int[5];
            for (int j = i; j < i + 20 && j < text.length(); j++) n[(j - i) / 4] |= text.charAt(j) << 24 - 8 * (j % 4);
            x.feed(n[0], n[1], n[2], n[3], n[4]);
        }
        x.end(text.length());
        return x.text(sort, at);
    }

    private static String block(String readme, String from) {
        int begin = readme.indexOf("```java\n" + from) + 8;
        return readme.substring(begin, readme.indexOf("```", begin));
    }

    private static void example(String readme) throws ReflectiveOperationException {
        QuarrelOvens x = new QuarrelOvens();
        String[] lines = block(readme, "QuarrelOvens x = new QuarrelOvens();").split("\n");
        CHECK.due("its lines", lines.length > 10, true);
        for (int i = 1; i < lines.length; i++) {
            Matcher told = TOLD.matcher(lines[i]);
            Matcher asked = ASKED.matcher(lines[i]);
            if (told.matches()) {
                CHECK.due(lines[i], tell(x, Integer.parseInt(told.group(1)), QuarrelOvens.NONE, told.group(2)), Integer.parseInt(told.group(3)));
            } else if (asked.matches()) {
                CHECK.due(lines[i], ask(x, asked.group(1), asked.group(2).split(", ")), Integer.parseInt(asked.group(3)));
            } else {
                CHECK.due("a line with its answer: " + lines[i], 0, 1);
            }
        }
    }

    private static long ask(QuarrelOvens x, String name, String[] words) throws ReflectiveOperationException {
        Class<?>[] types = new Class<?>[words.length];
        Object[] values = new Object[words.length];
        for (int i = 0; i < words.length; i++) {
            boolean truth = words[i].equals("true") || words[i].equals("false");
            types[i] = truth ? boolean.class : int.class;
            values[i] = truth ? (Object) words[i].equals("true") : (Object) (words[i].equals("NONE") ? QuarrelOvens.NONE : Integer.parseInt(words[i]));
        }
        return ((Number) QuarrelOvens.class.getMethod(name, types).invoke(x, values)).longValue();
    }

    /** Each method is named, and each that is named with its parameters has so many. */
    private static void calls(String readme) {
        Map<String, Integer> face = new TreeMap<>();
        for (Method m : QuarrelOvens.class.getDeclaredMethods()) {
            if (Modifier.isPublic(m.getModifiers())) face.put(m.getName(), m.getParameterCount());
        }
        for (String name : face.keySet()) CHECK.due("it names " + name, Pattern.compile("`" + name + "[(`]").matcher(readme).find(), true);
        Matcher named = CALL.matcher(readme);
        while (named.find()) CHECK.due("parameters of " + named.group(), face.getOrDefault(named.group(1), -1), named.group(2).split(", ").length);
    }
}
