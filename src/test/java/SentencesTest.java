import java.io.IOException;
import java.lang.reflect.Method;
import java.nio.file.Files;
import java.nio.file.Path;

/** Each promise has tests that bear its sentences, and the words they bear stand in the document. */
public final class SentencesTest {
    private static final Class<?>[] TESTS = {EdgeTapeTest.class, EdgeTextTest.class, EdgeLandTest.class, EdgeRaceTest.class,
        EdgeBidsTest.class, EdgeWaitTest.class, EdgeBookTest.class, EdgeHopeTest.class};
    private static final int PROMISES = 42;

    public static void main(String[] args) throws IOException {
        Due due = new Due();
        Path file = Path.of(System.getProperty("project.root", "."), "../shared/DOC.md");
        String document = Files.readString(file).replaceAll("\\s+", " ");
        int[] tests = new int[PROMISES + 1];
        for (Class<?> test : TESTS) {
            for (Method method : Sentences.of(test)) {
                Says says = method.getAnnotation(Says.class);
                tests[says.promise()]++;
                boolean stands = part(document, "## Promise " + says.promise() + ":").contains(says.words())
                        || part(document, "## Terms ").contains(says.words())
                        || part(document, "## What it is ").contains(says.words());
                due.is(test.getName() + "." + method.getName() + ": \"" + says.words() + "\" stands there", stands, true);
            }
        }
        for (int promise = 1; promise <= PROMISES; promise++) {
            due.is("promise " + promise + " has a test", tests[promise] > 0, true);
        }
        due.end("SentencesTest");
    }

    private static String part(String document, String heading) {
        int from = document.indexOf(heading);
        int to = from < 0 ? from : document.indexOf("## ", from + heading.length());
        return from < 0 ? "" : document.substring(from, to < 0 ? document.length() : to);
    }
}
