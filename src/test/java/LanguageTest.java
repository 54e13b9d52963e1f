import java.io.IOException;
import java.lang.reflect.Field;
import java.lang.reflect.Method;
import java.lang.reflect.Modifier;
import java.nio.charset.StandardCharsets;
import java.nio.file.Files;
import java.nio.file.Path;
import java.util.Set;
import java.util.TreeSet;
import java.util.regex.Matcher;
import java.util.regex.Pattern;

/** The rules of LANGUAGE.md that can be looked for, and the face of the document. */
final class LanguageTest {
    private static final Check CHECK = new Check("LanguageTest");
    private static final Set<String> FACE = Set.of("feed", "end", "text", "fault", "village", "apart", "deed", "stop", "state",
        "keenest", "lasts", "together", "plan", "married", "hopes", "fact", "fits", "drawn", "spent", "kept", "calm", "hired",
        "filled", "halves", "circle", "kindred", "mean", "after", "next", "farthest", "quiet", "count", "image", "again");

    public static void main(String[] args) throws IOException {
        face();
        classesInside();
        byte[] bytes = Files.readAllBytes(Path.of("src/main/java/QuarrelOvens.java"));
        String source = new String(bytes, StandardCharsets.ISO_8859_1);
        for (byte b : bytes) if (b < 9) CHECK.due("a sign beyond 127", b, 32);
        words(source.replaceAll("(?s)/\\*.*?\\*/", " ").replaceAll("//[^\n]*", " ").replaceAll("\"[^\"]*\"", "\"\""));
        lengths(source);
        CHECK.end();
    }

    private static void face() {
        Class<?> c = QuarrelOvens.class;
        CHECK.due("final", Modifier.isFinal(c.getModifiers()), true);
        Set<String> found = new TreeSet<>();
        for (Method m : c.getDeclaredMethods()) {
            if (m.isSynthetic()) continue;
            boolean open = Modifier.isPublic(m.getModifiers());
            if (open) found.add(m.getName());
            CHECK.due("of the face or private: " + m.getName(), open || Modifier.isPrivate(m.getModifiers()), true);
            CHECK.due("of the face: " + m.getName(), FACE.contains(m.getName()), open);
        }
        CHECK.due("all of the face", found.equals(new TreeSet<>(FACE)), true);
        CHECK.due("constructors", c.getDeclaredConstructors().length, 1);
        for (Field f : c.getDeclaredFields()) CHECK.due("field " + f.getName(), Modifier.isPrivate(f.getModifiers()), !f.getName().equals("NONE"));
    }

    private static void classesInside() {
        Class<?>[] all = QuarrelOvens.class.getDeclaredClasses();
        CHECK.due("some twelve classes", all.length + 1 <= 12, true);
        for (Class<?> c : all) {
            CHECK.due("static " + c, Modifier.isStatic(c.getModifiers()), true);
            CHECK.due("not open " + c, Modifier.isPublic(c.getModifiers()) || Modifier.isProtected(c.getModifiers()), false);
            int fields = 0;
            for (Field f : c.getDeclaredFields()) {
                if (!Modifier.isStatic(f.getModifiers())) fields++;
                else CHECK.due("static fields are final " + f, Modifier.isFinal(f.getModifiers()), true);
            }
            CHECK.due("fields of " + c, fields <= 20, true);
            for (Method m : c.getDeclaredMethods()) {
                CHECK.due("a name of the face inside: " + m, FACE.contains(m.getName()), false);
                CHECK.due("parameters of " + m, m.getParameterCount() <= 7, true);
            }
        }
    }

    private static void words(String code) {
        String[] none = {"throw", "throws", "try", "catch", "synchronized", "assert", "protected", "Exact\\b", "->", "::",
            "package", "new Random", "System\\.(?!arraycopy)", "Thread", "toString", "hashCode", "String\\s*\\.", "\\+\\s*\""};
        for (String word : none) {
            String pattern = word.matches("[a-z]+") ? "\\b" + word + "\\b" : word;
            CHECK.due("no " + word, Pattern.compile(pattern).matcher(code).find(), false);
        }
        Matcher imports = Pattern.compile("import ([^;]*);").matcher(code);
        while (imports.find()) CHECK.due("import " + imports.group(1), imports.group(1).equals("java.util.Arrays"), true);
        Matcher arrays = Pattern.compile("Arrays\\.(\\w+)").matcher(code);
        while (arrays.find()) CHECK.due("Arrays." + arrays.group(1), Set.of("fill", "copyOf", "copyOfRange").contains(arrays.group(1)), true);
    }

    private static void lengths(String source) {
        int begun = -1;
        String[] lines = source.split("\n");
        for (int i = 0; i < lines.length; i++) {
            boolean heads = lines[i].matches("( {4}| {8})[a-z].*\\(.*\\) \\{");
            if (heads) begun = i;
            if (begun >= 0 && lines[i].matches("( {4}| {8})\\}") && lines[i].indexOf('}') == lines[begun].length() - lines[begun].stripLeading().length()) {
                CHECK.due("short: " + lines[begun].trim(), i - begun <= 60, true);
                begun = -1;
            }
        }
    }
}
