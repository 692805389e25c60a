import java.util.function.ToLongFunction;

/** Promises 1 to 3, each sentence that names an edge: a new object, feed, end. */
public final class EdgeTapeTest {
    private static final int FULL = 0x61616161;

    public static void main(String[] args) throws ReflectiveOperationException {
        Sentences.run(EdgeTapeTest.class);
    }

    private static void nothing(Due due, String told, ToLongFunction<SecondHas> call, long want) {
        Watch.same(due, told + " of a new object", SecondHas::new, call, want);
        if (!told.startsWith("tape")) {
            Watch.same(due, told + " without a land", States::none, call, want);
        }
    }

    @Says(promise = 1, words = "No LAND.")
    static void aNewObjectIsEmpty(Due due) {
        nothing(due, "tape: count(2)", x -> x.count(2), 0);
        nothing(due, "tape: count(1)", x -> x.count(1), 0);
        nothing(due, "tape: fault(0)", x -> x.fault(0), 0);
        nothing(due, "tape: fault(1)", x -> x.fault(1), 0);
        nothing(due, "tape: text(0)", x -> x.text(0), Due.NONE);
        nothing(due, "tape: text(1)", x -> x.text(1), Due.NONE);
        nothing(due, "tape: end(0)", x -> Watch.of(x.end(0)), 1);
        nothing(due, "tape: end(1)", x -> Watch.of(x.end(1)), 0);
        nothing(due, "count(0)", x -> x.count(0), 0);
        nothing(due, "count(3)", x -> x.count(3), 0);
        nothing(due, "striver", x -> Due.striver(x, 0, 0), Long.MIN_VALUE);
        for (int what = 0; what < 5; what++) {
            int one = what;
            nothing(due, "law", x -> x.law(one), Due.NONE);
            nothing(due, "change", x -> Watch.of(x.change(one, 1)), 0);
        }
        nothing(due, "rule", x -> Watch.of(x.rule(0, 0)), 0);
        nothing(due, "rule none", x -> Watch.of(x.rule(0, Due.NONE)), 0);
    }

    @Says(promise = 1, words = "No LAND.")
    static void aNewObjectHasNoBids(Due due) {
        for (int what = 0; what < 4; what++) {
            int one = what;
            nothing(due, "bids", x -> x.bids(0, one), Due.HIDDEN);
            nothing(due, "cure", x -> x.cure(0, one), Due.HIDDEN);
            nothing(due, "rests", x -> x.rests(one - 1), Due.HIDDEN);
            nothing(due, "seller", x -> x.seller(one), Due.HIDDEN);
            nothing(due, "rounds", x -> x.rounds(one), Due.HIDDEN);
            nothing(due, "together", x -> x.together(0, 1, one), Due.HIDDEN);
            nothing(due, "hope", x -> x.hope(0, 0, one), Due.HIDDEN);
        }
        nothing(due, "gain", x -> x.gain(0, 0), Due.HIDDEN);
        nothing(due, "firm", x -> x.firm(0, 1), Due.NONE);
        nothing(due, "treason", x -> x.treason(0, 1), Due.HIDDEN);
        nothing(due, "bold", x -> x.bold(0), Due.NONE);
        nothing(due, "voids", x -> x.voids(), Due.NONE);
        nothing(due, "near", x -> x.near(0, 0), Due.NONE);
        nothing(due, "changes", x -> x.changes(0), Due.NONE);
        nothing(due, "waits", x -> x.waits(1, 0), Due.HIDDEN);
        nothing(due, "spur", x -> x.spur(1), Due.HIDDEN);
    }

    @Says(promise = 1, words = "No LAND.")
    static void aNewObjectHasNoRaceAndNoBook(Due due) {
        for (int what = 0; what < 3; what++) {
            int one = what;
            nothing(due, "race", x -> x.race(1, 1, one), Due.HIDDEN);
        }
        nothing(due, "came", x -> x.came(1, 1, 0), Due.HIDDEN);
        nothing(due, "step", x -> x.step(1, 1, 0, 0), Due.HIDDEN);
        nothing(due, "without", x -> x.without(1, 1, 0), Due.HIDDEN);
        nothing(due, "choice", x -> x.choice(1, 1, 0), Due.HIDDEN);
        nothing(due, "latest", x -> x.latest(1), Due.HIDDEN);
        nothing(due, "medal", x -> x.medal(1, 1, 0), Due.HIDDEN);
        nothing(due, "honour", x -> x.honour(0), Due.NONE);
        nothing(due, "years", x -> x.years(1, 1), Due.NONE);
        nothing(due, "undo", x -> x.undo(), Due.NONE);
        nothing(due, "often", x -> x.often(0), Due.NONE);
        nothing(due, "made", x -> x.made(0, 1), Due.NONE);
        nothing(due, "pair", x -> x.pair(), Due.NONE);
        nothing(due, "sum", x -> x.sum(0), Due.HIDDEN);
        nothing(due, "image", x -> x.image(), Due.NONE);
        nothing(due, "back", x -> x.back(), Due.NONE);
    }

    @Says(promise = 1, words = "No LAND.")
    static void oneObjectHasNothingOfAnother(Due due) {
        SecondHas other = States.three();
        SecondHas x = new SecondHas();
        due.is("strivers", x.count(0), 0);
        due.is("rules", x.count(1), 0);
        due.is("another land", Due.land(x, "s;s;lr1f9"), 2);
        x.honour(11);
        due.is("strivers of the other", other.count(0), 3);
        due.is("book of the other", other.count(3), 4);
        due.is("fee of the other", other.law(3), 7);
    }

    @Says(promise = 2, words = "Twenty bytes more come to the TAPE (of each number the highest first;")
    static void theHighestByteIsFirst(Due due) {
        SecondHas x = new SecondHas();
        due.is("twenty", x.feed(0x73703177, 0x326B3362, 0x343B7370, 0x35773637, 0x6B316239), 20);
        due.is("two strivers", x.text(0), 2);
        int[][] want = {{1, 2, 3, 4}, {5, 67, 1, 9}};
        for (int i = 0; i < 2; i++) {
            for (int what = 0; what < 4; what++) {
                due.is("striver " + i + " " + what, Due.striver(x, i, what), want[i][what]);
            }
        }
    }

    @Says(promise = 2, words = "bytes of 0 are left out): how many it has.")
    static void bytesOfNothingAreLeftOut(Due due) {
        for (int at = 0; at < 20; at++) {
            int[] five = new int[5];
            five[at / 4] = 0xC3 << (24 - 8 * (at % 4));
            due.is("one at " + at, new SecondHas().feed(five[0], five[1], five[2], five[3], five[4]), 1);
            for (int i = 0; i < 5; i++) {
                five[i] = i == at / 4 ? FULL & ~(255 << (24 - 8 * (at % 4))) : FULL;
            }
            due.is("none at " + at, new SecondHas().feed(five[0], five[1], five[2], five[3], five[4]), 19);
        }
        Watch.same(due, "twenty of 0", States::three, x -> x.feed(0, 0, 0, 0, 0), 5);
    }

    @Says(promise = 2, words = "bytes of 0 are left out): how many it has.")
    static void everyOtherByteComes(Due due) {
        SecondHas x = new SecondHas();
        for (int one = 1; one <= 160; one++) {
            due.is("byte " + one, x.feed(0, 0, one << 8, 0, 0), one);
        }
        SecondHas y = new SecondHas();
        for (int one = 161; one <= 255; one++) {
            due.is("byte " + one, y.feed(0, 0, 0, 0, one << 24), one - 160);
        }
    }

    @Says(promise = 2, words = "NONE: more than 160.")
    static void upTo160(Due due) {
        for (int has = 140; has <= 160; has++) {
            for (int more = 0; more <= 20; more++) {
                SecondHas x = new SecondHas();
                Due.feed(x, "s;s" + " ".repeat(has - 3));
                int[] five = new int[5];
                for (int i = 0; i < more; i++) {
                    five[i / 4] |= ' ' << (24 - 8 * (i % 4));
                }
                boolean room = has + more <= 160;
                int want = room ? has + more : Due.NONE;
                due.is(has + " and " + more, x.feed(five[0], five[1], five[2], five[3], five[4]), want);
                due.is("bytes then", x.count(2), room ? has + more : has);
                due.is("a land still", x.fault(0), Due.NONE);
            }
        }
    }

    @Says(promise = 2, words = "NONE: more than 160.")
    static void everyByteTakesRoom(Due due) {
        SecondHas full = new SecondHas();
        Due.feed(full, "x".repeat(160));
        for (int one = 1; one <= 255; one++) {
            due.is("byte " + one + " to a full one", full.feed(0, one << 8 * (one % 4), 0, 0, 0), Due.NONE);
        }
        for (int one : new int[] {1, 2, 16, 127, 128, 255}) {
            int four = one * 0x01010101;
            for (int has = 156; has <= 160; has++) {
                SecondHas x = new SecondHas();
                Due.feed(x, "x".repeat(has));
                due.is("four of " + one + " to " + has, x.feed(0, 0, four, 0, 0), has == 156 ? 160 : Due.NONE);
                due.is("bytes then", x.count(2), has == 156 ? 160 : has);
            }
        }
    }

    @Says(promise = 2, words = "NONE: more than 160.")
    static void refusedWholeAndNothingChanged(Due due) {
        due.is("a full tape", States.fullTape().count(2), 160);
        Watch.same(due, "one more", States::fullTape, x -> x.feed(0, 0, 0, 0, 'x'), Due.NONE);
        Watch.same(due, "twenty more", States::fullTape, x -> x.feed(FULL, FULL, FULL, FULL, FULL), Due.NONE);
        Watch.same(due, "none more", States::fullTape, x -> x.feed(0, 0, 0, 0, 0), 160);
        Watch.same(due, "one too many of twenty", EdgeTapeTest::tapeOf141, x -> x.feed(-1, -1, -1, -1, -1), Due.NONE);
    }

    private static SecondHas tapeOf141() {
        SecondHas x = new SecondHas();
        Due.feed(x, "y:1" + " ".repeat(138));
        return x;
    }

    @Says(promise = 3, words = "The TAPE has its first n bytes alone.")
    static void eachLengthOfATape(Due due) {
        String text = "sp1;sp2w3;sp4;lr3m7;sp5k1;sp6w12b7";
        for (int n = 0; n <= text.length(); n++) {
            SecondHas x = new SecondHas();
            Due.feed(x, text);
            due.is("end " + n, x.end(n), true);
            due.is("bytes", x.count(2), n);
            due.is("fault", x.fault(0), Due.fault(text.substring(0, n), 0));
            due.is("feed behind it", Due.feed(x, text.substring(n)), text.length());
            due.is("as it was", x.text(0), 5);
            due.is("to the last byte", Due.striver(x, 4, 3), 7);
        }
    }

    @Says(promise = 3, words = "False: n.")
    static void noSuchLength(Due due) {
        for (int n : new int[] {Integer.MIN_VALUE, -160, -2, -1, 6, 7, 160, 161, Integer.MAX_VALUE}) {
            Watch.same(due, "end " + n, States::three, x -> Watch.of(x.end(n)), 0);
        }
        Watch.same(due, "end of all", States::three, x -> Watch.of(x.end(5)), 1);
        Watch.same(due, "end 161 of a full one", States::fullTape, x -> Watch.of(x.end(161)), 0);
        Watch.same(due, "end 160 of a full one", States::fullTape, x -> Watch.of(x.end(160)), 1);
        Watch.same(due, "end 0 of an empty one", SecondHas::new, x -> Watch.of(x.end(0)), 1);
        Watch.same(due, "end 1 of an empty one", SecondHas::new, x -> Watch.of(x.end(1)), 0);
        SecondHas cut = States.three();
        due.is("end 3", cut.end(3), true);
        due.is("what was cut is gone", cut.end(4), false);
    }
}
