import java.io.IOException;
import java.lang.reflect.Constructor;
import java.lang.reflect.Executable;
import java.lang.reflect.Field;
import java.lang.reflect.Method;
import java.lang.reflect.Modifier;
import java.nio.file.Files;
import java.nio.file.Path;
import java.util.Arrays;
import java.util.List;
import java.util.Set;
import java.util.TreeSet;
import java.util.regex.Matcher;
import java.util.regex.Pattern;
import java.util.stream.Collectors;

/** The face of the document and those rules of LANGUAGE.md that can be read off the class or its text. */
public final class LanguageTest {
    private static final String[] FORBIDDEN = {"->", "::", "\\bcatch\\b", "\\bfinally\\b", "\\bsynchronized\\b",
        "\\bassert\\b", "\\bprotected\\b", "Exact\\b", "\\bstatic\\s*\\{", "\\bThread\\b", "\\bSystem\\.(?!arraycopy)",
        "\\bRandom\\b", "\\bdouble\\b", "\\bfloat\\b", "\\bvar\\b", "\\bwhile \\(true\\)", "for \\(;;", "\\bpackage\\b"};

    private static final Due DUE = new Due();

    public static void main(String[] args) throws IOException, IllegalAccessException {
        Path root = Path.of(System.getProperty("project.root", "."));
        face(faceOf(Files.readString(root.resolve("../shared/DOC.md"))));
        classes();
        text(Files.readString(root.resolve("src/main/java/SecondHas.java")));
        DUE.end("LanguageTest");
    }

    /** The members of the public face as the document has them, each on a line of its own, without the names of parameters. */
    private static Set<String> faceOf(String document) {
        int from = document.indexOf("public final class SecondHas {");
        Set<String> face = new TreeSet<>();
        for (String line : document.substring(from, document.indexOf("```", from)).split("\n")) {
            if (line.startsWith("    public ")) {
                face.add(line.trim().replaceAll("(int|long) \\w+(?=[,)])", "$1").replace(", ", ","));
            }
        }
        return face;
    }

    private static String told(Executable member, String name) {
        String parameters = Arrays.stream(member.getParameterTypes()).map(Class::getName).collect(Collectors.joining(","));
        String thrown = Arrays.stream(member.getExceptionTypes()).map(Class::getSimpleName).collect(Collectors.joining(","));
        return "public " + name + "(" + parameters + ")" + (thrown.isEmpty() ? "" : " throws " + thrown) + ";";
    }

    private static void face(Set<String> due) throws IllegalAccessException {
        Class<?> of = SecondHas.class;
        DUE.is("public and final", of.getModifiers(), Modifier.PUBLIC | Modifier.FINAL);
        Set<String> open = new TreeSet<>();
        for (Method method : of.getDeclaredMethods()) {
            if (Modifier.isPublic(method.getModifiers())) {
                DUE.is(method + " is no static one", Modifier.isStatic(method.getModifiers()), false);
                open.add(told(method, method.getReturnType() + " " + method.getName()));
                onlyOneBears(method.getName());
            } else {
                DUE.is(method + " is private", Modifier.isPrivate(method.getModifiers()), true);
            }
        }
        for (Constructor<?> constructor : of.getDeclaredConstructors()) {
            DUE.is("a public constructor", Modifier.isPublic(constructor.getModifiers()), true);
            open.add(told(constructor, "SecondHas"));
        }
        for (Field field : of.getDeclaredFields()) {
            boolean isPublic = field.getModifiers() == (Modifier.PUBLIC | Modifier.STATIC | Modifier.FINAL);
            DUE.is(field + " is public or private", isPublic || Modifier.isPrivate(field.getModifiers()), true);
            if (isPublic) {
                open.add("public static final " + field.getType() + " " + field.getName() + " = " + field.getInt(null) + ";");
            }
        }
        DUE.is("members of the document", due.size(), 44);
        for (String member : due) {
            DUE.is("the class has " + member, open.contains(member), true);
        }
        for (String member : open) {
            DUE.is("the document has " + member, due.contains(member), true);
        }
    }

    /** No private method, and none of a class inside, bears the name of a public one. */
    private static void onlyOneBears(String name) {
        int bear = 0;
        for (Method method : SecondHas.class.getDeclaredMethods()) {
            bear += method.getName().equals(name) ? 1 : 0;
        }
        for (Class<?> inner : SecondHas.class.getDeclaredClasses()) {
            for (Method method : inner.getDeclaredMethods()) {
                bear += method.getName().equals(name) ? 1 : 0;
            }
        }
        DUE.is("methods with the name " + name, bear, 1);
    }

    private static void classes() {
        Class<?>[] inner = SecondHas.class.getDeclaredClasses();
        DUE.is("classes at most twelve", inner.length + 1 <= 12, true);
        for (Class<?> one : inner) {
            DUE.is(one + " is static", Modifier.isStatic(one.getModifiers()), true);
            DUE.is(one + " is not public", Modifier.isPublic(one.getModifiers()), false);
            statics(one);
        }
        statics(SecondHas.class);
    }

    private static void statics(Class<?> one) {
        int fields = 0;
        for (Field field : one.getDeclaredFields()) {
            boolean isStatic = Modifier.isStatic(field.getModifiers());
            fields += isStatic ? 0 : 1;
            DUE.is(field + " is final", !isStatic || Modifier.isFinal(field.getModifiers()), true);
        }
        DUE.is(one + " has some twenty fields at most", fields <= 20, true);
        for (Method method : one.getDeclaredMethods()) {
            DUE.is(method + " takes seven at most", method.getParameterCount() <= 7, true);
        }
    }

    private static void text(String source) {
        String code = Pattern.compile("/\\*.*?\\*/", Pattern.DOTALL).matcher(source).replaceAll("");
        for (String forbidden : FORBIDDEN) {
            Matcher found = Pattern.compile(forbidden).matcher(code);
            DUE.is("the text has " + forbidden, found.find(), false);
        }
        Matcher imports = Pattern.compile("import ([\\w.]+);").matcher(code);
        while (imports.find()) {
            boolean known = List.of("java.util.Arrays", "java.util.NoSuchElementException").contains(imports.group(1));
            DUE.is("import " + imports.group(1), known, true);
        }
        Matcher thrown = Pattern.compile("throw new (\\w+)").matcher(code);
        while (thrown.find()) {
            DUE.is("throws " + thrown.group(1), thrown.group(1).equals("NoSuchElementException"), true);
        }
        for (String line : code.split("\n")) {
            boolean once = line.matches(" {8}(private )?final .* = new .*") || line.matches(" {8}\\w+ = new .*");
            boolean made = line.contains("new ") && !line.contains("throw new ");
            DUE.is("made by a call: " + line.trim(), made && !once, false);
        }
        lengths(code);
    }

    private static void lengths(String code) {
        String[] lines = code.split("\n");
        int begun = 0;
        for (int i = 0; i < lines.length; i++) {
            DUE.is("line " + (i + 1) + " is not too long", lines[i].length() <= 120, true);
            if (lines[i].matches("( {4}| {8})[\\w\\[\\] ]+\\(.*\\{")) {
                begun = i;
            }
            if (lines[i].matches("( {4}| {8})\\}")) {
                DUE.is("the method that ends in line " + (i + 1) + " is short", begun == 0 || i - begun <= 60, true);
                begun = 0;
            }
        }
    }
}
