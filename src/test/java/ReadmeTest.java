import java.io.IOException;
import java.lang.reflect.InvocationTargetException;
import java.lang.reflect.Method;
import java.lang.reflect.Modifier;
import java.nio.file.Files;
import java.nio.file.Path;
import java.util.regex.Matcher;
import java.util.regex.Pattern;

/** What README.md shows: its calls answer as it says, its tables name each call of the face, each text is sound, each test is there. */
public final class ReadmeTest {
    private static final Due DUE = new Due();

    public static void main(String[] args) throws IOException, ReflectiveOperationException {
        Path root = Path.of(System.getProperty("project.root", "."));
        String readme = Files.readString(root.resolve("README.md"));
        calls(readme.substring(readme.indexOf("```java"), readme.indexOf("```", readme.indexOf("```java") + 3)));
        for (Method method : SecondHas.class.getDeclaredMethods()) {
            if (Modifier.isPublic(method.getModifiers())) {
                Pattern row = Pattern.compile("^\\|[^|]*`" + method.getName() + "\\(", Pattern.MULTILINE);
                DUE.is("README.md has a row for " + method.getName(), row.matcher(readme).find(), true);
            }
        }
        texts(readme);
        for (java.io.File file : root.resolve("src/test/java").toFile().listFiles()) {
            String name = file.getName().replace(".java", "");
            DUE.is("README.md has " + name, !name.endsWith("Test") || readme.contains("| " + name + " |"), true);
        }
        DUE.end("ReadmeTest");
    }

    /** Runs the calls of an object x one behind another; where a number follows behind //, it is the answer due. */
    private static void calls(String code) throws ReflectiveOperationException {
        SecondHas x = new SecondHas();
        Matcher call = Pattern.compile("x\\.(\\w+)\\((.*?)\\);(?:\\s*// (-?\\d+)\\s)?").matcher(code);
        int answers = 0;
        while (call.find()) {
            String[] told = call.group(2).split(", ");
            Object[] numbers = new Object[told.length];
            Class<?>[] types = new Class<?>[told.length];
            for (int i = 0; i < told.length; i++) {
                numbers[i] = Integer.decode(told[i]);
                types[i] = int.class;
            }
            Object answer = ask(x, SecondHas.class.getMethod(call.group(1), types), numbers);
            if (call.group(3) != null) {
                answers++;
                DUE.is(call.group(), String.valueOf(answer), call.group(3));
            }
        }
        DUE.is("answers shown", answers, 4);
    }

    private static Object ask(SecondHas x, Method method, Object[] numbers) throws ReflectiveOperationException {
        try {
            return method.invoke(x, numbers);
        } catch (InvocationTargetException e) {
            return e.getCause();
        }
    }

    private static void texts(String readme) {
        DUE.is("the land", Due.fault(shown(readme, "land"), 0), Due.NONE);
        DUE.is("items of s", Due.fault("s;" + shown(readme, "items of `s`"), 0), Due.NONE);
        DUE.is("items of l", Due.fault("s;s;" + shown(readme, "items of `l`"), 0), Due.NONE);
        DUE.is("the rule", Due.fault(shown(readme, "rule"), 1), Due.NONE);
        DUE.is("the condition", Due.fault("y:" + shown(readme, "condition") + "?1", 1), Due.NONE);
        DUE.is("the sum", Due.fault("y:" + shown(readme, "sum"), 1), Due.NONE);
    }

    /** The last text in a row of the first table. */
    private static String shown(String readme, String row) {
        int from = readme.indexOf("| " + row + " |");
        String line = readme.substring(from, readme.indexOf('\n', from));
        String[] parts = line.split("`");
        return parts[parts.length - 2].replace("\\|", "|");
    }
}
