import java.util.function.Supplier;
import java.util.function.ToLongFunction;

/**
 * Two objects made by the same calls: one of them is asked, and then both must answer alike to whatever can be asked,
 * to the last row of the book and the last byte of the tape.
 */
final class Watch {
    /** The answer of a call that changes nothing (one that is refused, or asks only). */
    static void same(Due due, String told, Supplier<SecondHas> made, ToLongFunction<SecondHas> call, long want) {
        SecondHas x = made.get();
        due.is(told, call.applyAsLong(x), want);
        String seen = all(x);
        String wanted = all(made.get());
        if (!seen.equals(wanted)) {
            System.out.println("was  " + wanted);
            System.out.println("is   " + seen);
        }
        due.is(told + " changes nothing", seen.equals(wanted), true);
    }

    static int of(boolean answer) {
        return answer ? 1 : 0;
    }

    /** All that can be seen of an object, by some 350 calls at most; it is used up by that. */
    static String all(SecondHas x) {
        StringBuilder seen = new StringBuilder();
        now(x, seen);
        for (int left = x.undo(); left != Due.NONE; left = x.undo()) {
            seen.append(" u").append(left).append(' ').append(x.sum(0));
        }
        seen.append(" back").append(x.back());
        now(x, seen);
        seen.append(" text").append(x.text(0)).append(' ').append(x.text(1));
        now(x, seen);
        rules(x, seen);
        return seen.toString();
    }

    private static void now(SecondHas x, StringBuilder seen) {
        seen.append(" c");
        for (int what = 0; what < 4; what++) {
            seen.append(' ').append(x.count(what));
        }
        seen.append(" f ").append(x.fault(0)).append(' ').append(x.fault(1)).append(" l");
        for (int what = 0; what < 5; what++) {
            seen.append(' ').append(x.law(what));
        }
        for (int i = 0; i < x.count(0); i++) {
            seen.append(" s");
            for (int what = 0; what < 5; what++) {
                seen.append(' ').append(Due.striver(x, i, what));
            }
            seen.append(' ').append(x.often(i)).append(' ').append(x.sum(i));
        }
        seen.append(" r ").append(x.pair()).append(' ').append(x.race(7, 9, 0)).append(' ').append(x.race(7, 9, 2));
        seen.append(' ').append(x.bids(0, 3)).append(' ').append(x.rounds(1)).append(' ').append(x.rests(-1));
    }

    /** What each rule does, told by a land made for it. */
    private static void rules(SecondHas x, StringBuilder seen) {
        Due.land(x, "sp9;sp9");
        for (int rule = 0; x.rule(0, rule); rule++) {
            seen.append(" y ").append(x.step(90, 9, 0, 1)).append(' ').append(x.step(90, 9, 0, 5));
        }
    }
}
