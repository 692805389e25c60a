import java.io.IOException;
import java.lang.reflect.Constructor;
import java.lang.reflect.Field;
import java.lang.reflect.Method;
import java.lang.reflect.Modifier;
import java.nio.file.Files;
import java.nio.file.Path;
import java.util.Arrays;
import java.util.List;
import java.util.Set;
import java.util.TreeSet;
import java.util.regex.Matcher;
import java.util.regex.Pattern;
import java.util.stream.Collectors;

/** The face of the document and those rules of LANGUAGE.md that can be read off the class or its text. */
public final class LanguageTest {
    private static final String[] FACE = {"int feed(int,int,int,int,int)", "boolean end(int)", "int fault(int)",
        "int text(int)", "int striver(int,int)", "int law(int)", "boolean change(int,int)", "boolean rule(int,int)",
        "int race(int,int,int)", "int came(int,int,int)", "int step(int,int,int,int)", "int bids(int,int)",
        "int gain(int,int)", "int rests(int)", "int seller(int)", "int cure(int,int)", "int firm(int,int)",
        "int together(int,int,int)", "int treason(int,int)", "int waits(int,int)", "int spur(int)", "int rounds(int)",
        "int honour(int)", "int years(int,long)", "int undo()", "int often(int)", "int made(int,int)", "int pair()",
        "int sum(int)", "int hope(int,int,int)", "int bold(int)", "int voids()", "int near(int,int)",
        "int changes(int)", "int without(int,int,int)", "int choice(int,int,int)", "int latest(int)",
        "int medal(int,int,int)", "int image()", "int back()", "int count(int)"};
    private static final String[] FORBIDDEN = {"->", "::", "\\bcatch\\b", "\\bfinally\\b", "\\bsynchronized\\b",
        "\\bassert\\b", "\\bprotected\\b", "Exact\\b", "\\bstatic\\s*\\{", "\\bThread\\b", "\\bSystem\\.(?!arraycopy)",
        "\\bRandom\\b", "\\bdouble\\b", "\\bfloat\\b", "\\bvar\\b", "\\bwhile \\(true\\)", "for \\(;;", "\\bpackage\\b"};

    private static final Due DUE = new Due();

    public static void main(String[] args) throws IOException {
        face();
        classes();
        text(Files.readString(Path.of(System.getProperty("project.root", "."), "src/main/java/SecondHas.java")));
        DUE.end("LanguageTest");
    }

    private static void face() {
        Class<?> of = SecondHas.class;
        DUE.is("public and final", of.getModifiers(), Modifier.PUBLIC | Modifier.FINAL);
        Set<String> open = new TreeSet<>();
        Set<String> closed = new TreeSet<>();
        for (Method method : of.getDeclaredMethods()) {
            String parameters = Arrays.stream(method.getParameterTypes()).map(Class::getName).collect(Collectors.joining(","));
            String told = method.getReturnType() + " " + method.getName() + "(" + parameters + ")";
            if (Modifier.isPublic(method.getModifiers())) {
                open.add(told);
            } else {
                DUE.is(told + " is private", Modifier.isPrivate(method.getModifiers()), true);
                closed.add(method.getName());
            }
        }
        DUE.is("the face: " + open, open.equals(new TreeSet<>(List.of(FACE))), true);
        for (String told : FACE) {
            String name = told.substring(told.indexOf(' ') + 1, told.indexOf('('));
            DUE.is("a private method bears the name " + name, closed.contains(name), false);
            for (Class<?> inner : of.getDeclaredClasses()) {
                for (Method method : inner.getDeclaredMethods()) {
                    DUE.is(inner + " has a method " + name, method.getName().equals(name), false);
                }
            }
        }
        for (Field field : of.getDeclaredFields()) {
            boolean constant = field.getName().equals("NONE") || field.getName().equals("HIDDEN");
            int due = Modifier.PUBLIC | Modifier.STATIC | Modifier.FINAL;
            DUE.is(field.getName(), constant ? field.getModifiers() == due : Modifier.isPrivate(field.getModifiers()), true);
        }
        Constructor<?>[] constructors = of.getDeclaredConstructors();
        DUE.is("one constructor", constructors.length, 1);
        DUE.is("without parameters", constructors[0].getParameterCount(), 0);
    }

    private static void classes() {
        Class<?>[] inner = SecondHas.class.getDeclaredClasses();
        DUE.is("classes at most twelve", inner.length + 1 <= 12, true);
        for (Class<?> one : inner) {
            DUE.is(one + " is static", Modifier.isStatic(one.getModifiers()), true);
            DUE.is(one + " is not public", Modifier.isPublic(one.getModifiers()), false);
            statics(one);
        }
        statics(SecondHas.class);
    }

    private static void statics(Class<?> one) {
        int fields = 0;
        for (Field field : one.getDeclaredFields()) {
            boolean isStatic = Modifier.isStatic(field.getModifiers());
            fields += isStatic ? 0 : 1;
            DUE.is(field + " is final", !isStatic || Modifier.isFinal(field.getModifiers()), true);
        }
        DUE.is(one + " has some twenty fields at most", fields <= 20, true);
        for (Method method : one.getDeclaredMethods()) {
            DUE.is(method + " takes seven at most", method.getParameterCount() <= 7, true);
        }
    }

    private static void text(String source) {
        String code = Pattern.compile("/\\*.*?\\*/", Pattern.DOTALL).matcher(source).replaceAll("");
        for (String forbidden : FORBIDDEN) {
            Matcher found = Pattern.compile(forbidden).matcher(code);
            DUE.is("the text has " + forbidden, found.find(), false);
        }
        Matcher imports = Pattern.compile("import ([\\w.]+);").matcher(code);
        while (imports.find()) {
            boolean known = List.of("java.util.Arrays", "java.util.NoSuchElementException").contains(imports.group(1));
            DUE.is("import " + imports.group(1), known, true);
        }
        Matcher thrown = Pattern.compile("throw new (\\w+)").matcher(code);
        while (thrown.find()) {
            DUE.is("throws " + thrown.group(1), thrown.group(1).equals("NoSuchElementException"), true);
        }
        for (String line : code.split("\n")) {
            boolean once = line.matches(" {8}(private )?final .* = new .*") || line.matches(" {8}\\w+ = new .*");
            boolean made = line.contains("new ") && !line.contains("throw new ");
            DUE.is("made by a call: " + line.trim(), made && !once, false);
        }
        lengths(code);
    }

    private static void lengths(String code) {
        String[] lines = code.split("\n");
        int begun = 0;
        for (int i = 0; i < lines.length; i++) {
            DUE.is("line " + (i + 1) + " is not too long", lines[i].length() <= 120, true);
            if (lines[i].matches("( {4}| {8})[\\w\\[\\] ]+\\(.*\\{")) {
                begun = i;
            }
            if (lines[i].matches("( {4}| {8})\\}")) {
                DUE.is("the method that ends in line " + (i + 1) + " is short", begun == 0 || i - begun <= 60, true);
                begun = 0;
            }
        }
    }
}
