import java.lang.reflect.InvocationTargetException;
import java.lang.reflect.Method;
import java.util.ArrayList;
import java.util.Comparator;
import java.util.List;

/** Runs all tests of a class that bear a sentence of the document. */
final class Sentences {
    static void run(Class<?> test) throws ReflectiveOperationException {
        Due due = new Due();
        for (Method method : of(test)) {
            Says says = method.getAnnotation(Says.class);
            int before = due.asked();
            due.under("promise " + says.promise() + ", \"" + says.words() + "\", " + method.getName() + ": ");
            invoke(method, due);
            due.is("asks nothing", due.asked() > before, true);
        }
        due.under("");
        due.end(test.getSimpleName());
    }

    static List<Method> of(Class<?> test) {
        List<Method> found = new ArrayList<>();
        for (Method method : test.getDeclaredMethods()) {
            if (method.isAnnotationPresent(Says.class)) {
                found.add(method);
            }
        }
        found.sort(Comparator.comparingInt((Method m) -> m.getAnnotation(Says.class).promise()).thenComparing(Method::getName));
        return found;
    }

    private static void invoke(Method method, Due due) throws ReflectiveOperationException {
        try {
            method.invoke(null, due);
        } catch (InvocationTargetException e) {
            e.getCause().printStackTrace(System.out);
            due.is("throws " + e.getCause(), true, false);
        }
    }
}
