import java.lang.reflect.InvocationTargetException;
import java.lang.reflect.Method;
import java.util.Arrays;
import java.util.Comparator;
import java.util.NoSuchElementException;
import java.util.Random;

/**
 * Any call with any numbers in any state answers: nothing is thrown but what the document names, and what is refused
 * changes nothing that can be asked for.
 */
public final class NeverThrowsTest {
    private static final int[] WILD = {Integer.MIN_VALUE, Integer.MIN_VALUE + 1, -1000001, -1000000, -100, -99, -2, -1, 0,
        1, 2, 3, 4, 5, 6, 7, 8, 9, 10, 11, 39, 40, 41, 59, 60, 61, 63, 64, 99, 100, 101, 160, 161, 9999, 10000, 99999,
        100000, 999999, 1000000, Integer.MAX_VALUE - 1, Integer.MAX_VALUE};

    private final Random random = new Random(7);
    private final Texts texts = new Texts(random);
    private final Due due = new Due();

    public static void main(String[] args) throws IllegalAccessException {
        NeverThrowsTest test = new NeverThrowsTest();
        for (int run = 0; run < 150; run++) {
            test.oneRun(run, 400, false);
        }
        for (int run = 0; run < 4000; run++) {
            test.oneRun(run, 3, true);
        }
        test.due.end("NeverThrowsTest");
    }

    /** An object is used for 512 calls at most, and to look at its state takes some fifty of them. */
    private void oneRun(int run, int calls, boolean watched) throws IllegalAccessException {
        SecondHas x = new SecondHas();
        if (run % 5 > 0) {
            for (int i = random.nextInt(5); i > 0; i--) {
                Due.rule(x, texts.rule());
            }
            Due.land(x, texts.land());
            for (int i = 0; i < x.count(0); i++) {
                x.rule(i, random.nextInt(4));
            }
        }
        Method[] face = SecondHas.class.getDeclaredMethods();
        Arrays.sort(face, Comparator.comparing(Method::toString));
        for (int call = 0; call < calls; call++) {
            Method method = face[random.nextInt(face.length)];
            if (java.lang.reflect.Modifier.isPublic(method.getModifiers())) {
                wildCall(x, method, watched);
            }
        }
    }

    private void wildCall(SecondHas x, Method method, boolean watched) throws IllegalAccessException {
        Object[] wild = new Object[method.getParameterCount()];
        StringBuilder told = new StringBuilder(method.getName());
        for (int i = 0; i < wild.length; i++) {
            int one = random.nextInt(3) == 0 ? random.nextInt(7) : WILD[random.nextInt(WILD.length)];
            wild[i] = method.getParameterTypes()[i] == long.class ? (Object) (long) one : (Object) one;
            told.append(' ').append(one);
        }
        long before = watched ? state(x) : 0;
        try {
            Object answer = method.invoke(x, wild);
            boolean refused = answer.equals(Due.NONE) || answer.equals(Due.HIDDEN) || answer.equals(false);
            due.is(told + " refused, state", !watched || !refused || state(x) == before, true);
        } catch (InvocationTargetException e) {
            boolean named = method.getName().equals("striver") && e.getCause().getClass() == NoSuchElementException.class;
            due.is(told + " throws " + e.getCause(), named, true);
        }
    }

    /** What a refused call must leave alone, as one number. */
    private static long state(SecondHas x) {
        long state = x.fault(0) * 31L + x.fault(1);
        for (int i = 0; i < 5; i++) {
            state = state * 31 + x.law(i);
            state = state * 31 + x.count(i);
        }
        for (int i = 0; i < x.count(0); i++) {
            for (int what = 0; what < 5; what++) {
                state = state * 31 + x.striver(i, what);
            }
            state = (state * 31 + x.often(i)) * 31 + x.sum(i);
        }
        return state;
    }
}
