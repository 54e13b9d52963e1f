import java.lang.reflect.Method;
import java.util.TreeSet;

/** Each promise of the document has tests of its boundary cases, in the file that is named for it. */
final class EveryPromiseTest {
    private static final Check CHECK = new Check("EveryPromiseTest");
    private static final Class<?>[] FILES = {Edges01To05Test.class, Edges06To13Test.class, Edges14To22Test.class, Edges23To35Test.class};

    public static void main(String[] args) {
        TreeSet<Integer> found = new TreeSet<>();
        for (Class<?> file : FILES) {
            int first = Integer.parseInt(file.getName().substring(5, 7));
            int last = Integer.parseInt(file.getName().substring(9, 11));
            for (Method test : Check.testsOf(file)) {
                int promise = Integer.parseInt(test.getName().substring(7, 9));
                CHECK.due(test.getName() + " is in its file", promise >= first && promise <= last, true);
                found.add(promise);
            }
        }
        for (int promise = 1; promise <= 35; promise++) CHECK.due("a test for promise " + promise, found.contains(promise), true);
        CHECK.end();
    }
}
