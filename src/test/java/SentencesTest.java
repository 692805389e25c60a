import java.io.IOException;
import java.lang.reflect.Method;
import java.nio.file.Files;
import java.nio.file.Path;
import java.util.Arrays;

/**
 * Each promise has tests that bear its sentences, the words they bear stand in the document, and of the Terms and the
 * promises no words are left that no test bears.
 */
public final class SentencesTest {
    private static final Class<?>[] TESTS = {EdgeTapeTest.class, EdgeTextTest.class, EdgeLandTest.class, EdgeRaceTest.class,
        EdgeBidsTest.class, EdgeWaitTest.class, EdgeBookTest.class, EdgeHopeTest.class, PlainTextTest.class, PlainRaceTest.class,
        PlainBidsTest.class, PlainTurnsTest.class, PlainBookTest.class, RefusedTest.class};
    private static final int PROMISES = 42;

    /** Names that stand ahead of the sentences about them; they promise nothing by themselves. */
    private static final String[] NAMES = {"## Terms", "```text", "```", "==== 2.", "==== 3. BIDS:", "==== 4. WAITING:", "==== 5.",
        "Letters:", "GAIN of a STRIVER:", "CURE of a row:", "TOGETHER:", "Years:", "HOPE of a STRIVER with a BID:",
        "WITHOUT a STRIVER in a RACE:", "RACE:", "BIDS:", "RESTS:", "TREASON.", "SPUR.", "OFTEN.", "MADE.", "PAIR.", "SUM.", "BOLD.",
        "VOID.", "NEAR.", "CHANGES.", "CHOICE.", "LATEST.", "MEDAL."};

    private static final Due DUE = new Due();

    public static void main(String[] args) throws IOException {
        Path file = Path.of(System.getProperty("project.root", "."), "../shared/DOC.md");
        String document = Files.readString(file).replaceAll("\\s+", " ");
        int[] tests = new int[PROMISES + 1];
        for (Class<?> test : TESTS) {
            for (Method method : Sentences.of(test)) {
                Says says = method.getAnnotation(Says.class);
                tests[says.promise()]++;
                boolean stands = promise(document, says.promise()).contains(says.words())
                        || part(document, "## Terms ").contains(says.words())
                        || part(document, "## What it is ").contains(says.words());
                DUE.is(test.getName() + "." + method.getName() + ": \"" + says.words() + "\" stands there", stands, true);
            }
        }
        nothingIsLeft(part(document, "## Terms "), 0);
        for (int promise = 1; promise <= PROMISES; promise++) {
            DUE.is("promise " + promise + " has a test", tests[promise] > 0, true);
            nothingIsLeft(promise(document, promise), promise);
        }
        DUE.end("SentencesTest");
    }

    /** The Terms (0) may be borne by the tests of any promise, a promise by its own alone. */
    private static void nothingIsLeft(String part, int promise) {
        boolean[] borne = new boolean[part.length()];
        if (promise > 0) {
            Arrays.fill(borne, 0, part.indexOf("`: ") + 2, true);
        }
        for (Class<?> test : TESTS) {
            for (Method method : Sentences.of(test)) {
                Says says = method.getAnnotation(Says.class);
                if (promise == 0 || promise == says.promise()) {
                    mark(borne, part, says.words());
                }
            }
        }
        for (String name : NAMES) {
            mark(borne, part, name);
        }
        StringBuilder left = new StringBuilder();
        for (int at = 0; at < part.length(); at++) {
            left.append(borne[at] ? '\n' : part.charAt(at));
        }
        for (String words : left.toString().split("\n+")) {
            boolean says = words.chars().anyMatch(Character::isLetterOrDigit);
            DUE.is("promise " + promise + ": no test bears \"" + words + "\"", says, false);
        }
    }

    private static void mark(boolean[] borne, String part, String words) {
        for (int at = part.indexOf(words); at >= 0; at = part.indexOf(words, at + 1)) {
            Arrays.fill(borne, at, at + words.length(), true);
        }
    }

    private static String promise(String document, int promise) {
        return part(document, "## Promise " + promise + ":");
    }

    private static String part(String document, String heading) {
        int from = document.indexOf(heading);
        int to = from < 0 ? from : document.indexOf("## ", from + heading.length());
        return from < 0 ? "" : document.substring(from, to < 0 ? document.length() : to);
    }
}
