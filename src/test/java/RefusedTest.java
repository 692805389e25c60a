import java.util.Arrays;
import java.util.List;
import java.util.function.Predicate;
import java.util.function.Supplier;
import java.util.function.ToLongFunction;

/** "What is refused answers as told and changes nothing.": a row for each call and each reason, over all promises. */
public final class RefusedTest {
    private static final long THROWS = Long.MIN_VALUE;

    public static void main(String[] args) throws ReflectiveOperationException {
        Sentences.run(RefusedTest.class);
    }

    /** Rows of one state. */
    private static final class Rows {
        private final Due due;
        private final Supplier<SecondHas> state;

        Rows(Due due, Supplier<SecondHas> state) {
            this.due = due;
            this.state = state;
        }

        Rows none(String call, ToLongFunction<SecondHas> asked) {
            return is(call, asked, -1);
        }

        Rows hidden(String call, ToLongFunction<SecondHas> asked) {
            return is(call, asked, -1000000);
        }

        Rows isFalse(String call, Predicate<SecondHas> asked) {
            return is(call, x -> asked.test(x) ? 1 : 0, 0);
        }

        Rows is(String call, ToLongFunction<SecondHas> asked, long answer) {
            Watch.same(due, call, state, asked, answer);
            return this;
        }
    }

    @Says(promise = 1, words = "What is refused answers as told and changes nothing.")
    static void withoutALand(Due due) {
        new Rows(due, States::none)
            .is("striver", x -> Due.striver(x, 0, 0), THROWS)
            .none("law", x -> x.law(0))
            .isFalse("change", x -> x.change(0, 1))
            .isFalse("rule", x -> x.rule(0, 0))
            .hidden("race", x -> x.race(1, 1, 0))
            .hidden("came", x -> x.came(1, 1, 0))
            .hidden("step", x -> x.step(1, 1, 0, 0))
            .hidden("bids", x -> x.bids(0, 0))
            .hidden("gain", x -> x.gain(0, 0))
            .hidden("rests", x -> x.rests(-1))
            .hidden("seller", x -> x.seller(0))
            .hidden("cure", x -> x.cure(0, 0))
            .none("firm", x -> x.firm(0, 1))
            .hidden("together", x -> x.together(0, 1, 0))
            .hidden("treason", x -> x.treason(0, 1))
            .hidden("waits", x -> x.waits(1, 0))
            .hidden("spur", x -> x.spur(1))
            .hidden("rounds", x -> x.rounds(0))
            .none("honour", x -> x.honour(0))
            .none("years", x -> x.years(1, 1))
            .none("undo", x -> x.undo())
            .none("often", x -> x.often(0))
            .none("made", x -> x.made(0, 1))
            .none("pair", x -> x.pair())
            .hidden("sum", x -> x.sum(0))
            .hidden("hope", x -> x.hope(0, 0, 0))
            .none("bold", x -> x.bold(0))
            .none("voids", x -> x.voids())
            .none("near", x -> x.near(0, 0))
            .none("changes", x -> x.changes(0))
            .hidden("without", x -> x.without(1, 1, 0))
            .hidden("choice", x -> x.choice(1, 1, 0))
            .hidden("latest", x -> x.latest(1))
            .hidden("medal", x -> x.medal(1, 1, 0))
            .none("image", x -> x.image())
            .none("back", x -> x.back());
    }

    @Says(promise = 5, words = "What is refused answers as told and changes nothing.")
    static void tapesAndTexts(Due due) {
        new Rows(due, States::fullTape)
            .none("feed", x -> x.feed(0, 0, 0, 0, 1))
            .isFalse("end above", x -> x.end(161))
            .isFalse("end below", x -> x.end(-1))
            .is("fault of no sort", x -> x.fault(2), -2)
            .none("text of no sort", x -> x.text(2))
            .none("a land as a rule", x -> x.text(1));
        new Rows(due, States::three)
            .none("a rule as a land", x -> x.text(0))
            .none("text of no sort", x -> x.text(-1));
        new Rows(due, States::fourRules)
            .none("a fifth rule", x -> x.text(1));
    }

    @Says(promise = 10, words = "What is refused answers as told and changes nothing.")
    static void noSuchStriverOfThree(Due due) {
        for (int nobody : new int[] {-1, 3}) {
            new Rows(due, States::three)
                .is("striver", x -> Due.striver(x, nobody, 0), THROWS)
                .isFalse("rule", x -> x.rule(nobody, 0))
                .hidden("came", x -> x.came(9, 9, nobody))
                .hidden("step", x -> x.step(9, 9, nobody, 0))
                .hidden("gain", x -> x.gain(0, nobody))
                .hidden("waits", x -> x.waits(9, nobody))
                .none("often", x -> x.often(nobody))
                .none("made by nobody", x -> x.made(nobody, 0))
                .none("nobody made", x -> x.made(0, nobody))
                .hidden("sum", x -> x.sum(nobody))
                .hidden("hope", x -> x.hope(nobody, 0, 0))
                .none("bold", x -> x.bold(nobody))
                .none("near", x -> x.near(0, nobody))
                .hidden("without", x -> x.without(9, 9, nobody))
                .hidden("choice", x -> x.choice(9, 9, nobody))
                .hidden("medal", x -> x.medal(9, 9, nobody));
        }
        new Rows(due, States::three)
            .isFalse("no such rule", x -> x.rule(0, 3))
            .isFalse("no such rule", x -> x.rule(0, -2))
            .none("alike", x -> x.made(1, 1));
    }

    @Says(promise = 13, words = "What is refused answers as told and changes nothing.")
    static void noSuchRowOfThree(Due due) {
        for (int row : new int[] {-1, 6, 60, 600, 1000}) {
            new Rows(due, States::three)
                .hidden("bids", x -> x.bids(row, 0))
                .hidden("gain", x -> x.gain(row, 0))
                .hidden("cure", x -> x.cure(row, 0))
                .none("firm", x -> x.firm(row, 1))
                .hidden("together", x -> x.together(row, 1, 0))
                .hidden("treason", x -> x.treason(row, 1))
                .none("honour", x -> x.honour(row))
                .none("near", x -> x.near(row, 0))
                .none("changes", x -> x.changes(row));
        }
        for (int some : new int[] {-1, 0, 8}) {
            new Rows(due, States::three)
                .none("firm", x -> x.firm(0, some))
                .hidden("together", x -> x.together(0, some, 0))
                .hidden("treason", x -> x.treason(0, some));
        }
        new Rows(due, States::three)
            .hidden("a bid below", x -> x.hope(0, -1, 0))
            .hidden("a bid above", x -> x.hope(0, 6, 0));
    }

    @Says(promise = 42, words = "What is refused answers as told and changes nothing.")
    static void noSuchWhatOfThree(Due due) {
        int[] above = {5, 5, 3, 4, 2, 3, 2, 3, 2, 4};
        int[] below = new int[above.length];
        Arrays.fill(below, -1);
        for (int[] what : new int[][] {above, below}) {
            new Rows(due, States::three)
                .is("striver", x -> Due.striver(x, 0, what[0]), THROWS)
                .none("law", x -> x.law(what[1]))
                .isFalse("change", x -> x.change(what[1], 1))
                .hidden("race", x -> x.race(9, 9, what[2]))
                .hidden("bids", x -> x.bids(0, what[3]))
                .hidden("seller", x -> x.seller(what[4]))
                .hidden("cure", x -> x.cure(0, what[5]))
                .hidden("together", x -> x.together(0, 1, what[6]))
                .hidden("rounds", x -> x.rounds(what[7]))
                .hidden("hope", x -> x.hope(0, 0, what[8]))
                .hidden("count", x -> x.count(what[9]));
        }
        new Rows(due, States::three).none("no such rest", x -> x.rests(-2)).none("no such rest", x -> x.rests(9999));
    }

    @Says(promise = 38, words = "What is refused answers as told and changes nothing.")
    static void outOfBoundsOfThree(Due due) {
        for (int out : new int[] {0, 100}) {
            new Rows(due, States::three)
                .hidden("race", x -> x.race(out, 9, 0))
                .hidden("race", x -> x.race(9, out, 0))
                .hidden("came", x -> x.came(out, 9, 0))
                .hidden("came", x -> x.came(9, out, 0))
                .hidden("step", x -> x.step(out, 9, 0, 0))
                .hidden("step", x -> x.step(9, out, 0, 0))
                .hidden("without", x -> x.without(out, 9, 0))
                .hidden("without", x -> x.without(9, out, 0))
                .hidden("choice", x -> x.choice(out, 9, 0))
                .hidden("choice", x -> x.choice(9, out, 0))
                .hidden("latest", x -> x.latest(out))
                .hidden("medal", x -> x.medal(out, 9, 0))
                .hidden("medal", x -> x.medal(9, out, 0))
                .hidden("waits", x -> x.waits(out, 0))
                .hidden("spur", x -> x.spur(out))
                .isFalse("change", x -> x.change(3, out == 0 ? -1 : out));
        }
        new Rows(due, States::three)
            .hidden("a second below", x -> x.step(9, 9, 0, -1))
            .hidden("a second above", x -> x.step(9, 9, 0, 10))
            .hidden("turns", x -> x.waits(61, 0))
            .hidden("turns", x -> x.spur(61))
            .none("no years", x -> x.years(0, 1))
            .none("too many years", x -> x.years(37, 1));
    }

    @Says(promise = 25, words = "What is refused answers as told and changes nothing.")
    static void tooMany(Due due) {
        for (Supplier<SecondHas> state : List.<Supplier<SecondHas>>of(States::five, States::six)) {
            new Rows(due, state)
                .hidden("rests", x -> x.rests(-1))
                .hidden("seller", x -> x.seller(0))
                .hidden("together", x -> x.together(0, 31, 0))
                .hidden("treason", x -> x.treason(0, 31))
                .hidden("hope", x -> x.hope(0, 0, 0))
                .none("bold", x -> x.bold(0))
                .none("voids", x -> x.voids());
        }
        new Rows(due, States::fullBook)
            .none("honour", x -> x.honour(0))
            .none("years", x -> x.years(1, 1))
            .none("no image of this land", x -> x.back());
    }

    @Says(promise = 1, words = "The constants: `NONE = -1`: None; refused. `HIDDEN = -1000000`: Not told.")
    static void theConstants(Due due) throws ReflectiveOperationException {
        due.is("NONE", SecondHas.class.getField("NONE").getInt(null), -1);
        due.is("HIDDEN", SecondHas.class.getField("HIDDEN").getInt(null), -1000000);
    }
}
