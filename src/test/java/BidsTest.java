/** Promises 13 to 16: bids, gain, rests, seller. */
public final class BidsTest {
    public static void main(String[] args) {
        Due due = new Due();
        places(due);
        ties(due);
        paid(due);
        gains(due);
        refused(due);
        rests(due);
        sellers(due);
        due.end("BidsTest");
    }

    private static void places(Due due) {
        SecondHas x = Due.of("s;s;s;s;s;s;lr1m9");
        int[] order = {1, 3, 5, 2, 4, 0};
        for (int place = 1; place <= 6; place++) {
            x.change(0, place);
            due.is("place " + place, x.bids(395847, 0), order[place - 1]);
        }
        due.is("first", x.bids(395847, 2), 2);
        SecondHas two = Due.of("s;s;lr3");
        due.is("more than there are", two.bids(12, 0), Due.NONE);
        due.is("nothing is paid", two.bids(12, 1), 0);
        due.is("there is a first", two.bids(12, 2), 2);
        due.is("the least row", two.bids(0, 2), 1);
        due.is("the greatest row", two.bids(55, 2), 1);
    }

    private static void ties(Due due) {
        SecondHas x = Due.of("s;s;s;s");
        due.is("the lower is ahead", x.bids(5535, 0), 1);
        due.is("one is first", x.bids(5535, 2), 1);
        due.is("all alike", x.bids(2222, 0), 1);
        x.change(1, 1);
        due.is("three alike ahead: nobody has one ahead", x.bids(5535, 0), Due.NONE);
        due.is("three are first", x.bids(5535, 2), 11);
        x.change(0, 4);
        due.is("three ahead and nobody alike", x.bids(5535, 0), 2);
        x.change(0, 2);
        due.is("one ahead and one alike", x.bids(5335, 0), Due.NONE);
        due.is("one ahead, nobody alike", x.bids(5341, 0), 2);
        due.is("one ahead, one alike behind", x.bids(5441, 0), Due.NONE);
        x.change(0, 1);
        due.is("nobody ahead, one alike", x.bids(5541, 0), Due.NONE);
        due.is("nobody ahead, nobody alike", x.bids(4541, 0), 1);
        x.change(0, 3);
        due.is("two alike ahead", x.bids(5541, 0), 2);
    }

    private static void paid(Due due) {
        SecondHas x = Due.of("s;s;s;lr2");
        due.is("own", x.bids(531, 1), 3);
        x.change(2, 1);
        due.is("next ahead", x.bids(531, 1), 5);
        due.is("next ahead, alike", x.bids(551, 1), 5);
        x.change(2, 2);
        due.is("next behind", x.bids(531, 1), 1);
        due.is("next behind, alike", x.bids(533, 1), 3);
        x.change(0, 1);
        due.is("next behind the first", x.bids(531, 1), 3);
        x.change(2, 1);
        due.is("none ahead: own", x.bids(531, 1), 5);
        x.change(0, 3);
        due.is("ahead of the last", x.bids(531, 1), 3);
        x.change(2, 2);
        due.is("none behind", x.bids(531, 1), 0);
        x.change(1, 1);
        x.change(2, 1);
        due.is("with ties 1, two alike ahead", x.bids(551, 1), 5);
        x.change(0, 1);
        x.change(2, 2);
        due.is("with ties 1, two alike behind", x.bids(522, 1), 2);
        x.change(3, 7);
        due.is("all with the fee", x.bids(522, 3), 9);
        due.is("all with two fees", x.bids(552, 3), 14);
        due.is("nobody has it", x.bids(552, 1), 0);
        x.change(1, 0);
        due.is("all with one fee", x.bids(552, 3), 12);
    }

    private static void gains(Due due) {
        SecondHas x = Due.of("sw20;sw9;sw1;lr2f4");
        due.is("first", x.gain(531, 0), -4);
        due.is("has it", x.gain(531, 1), 6);
        due.is("neither", x.gain(531, 2), 0);
        due.is("pays more than it is worth", x.gain(502, 2), -1);
        x.change(0, 1);
        due.is("has it and is first", x.gain(531, 0), 11);
        x.change(1, 1);
        due.is("alike: the fee alone", x.gain(551, 0), -4);
        due.is("alike: the fee alone", x.gain(551, 1), -4);
        due.is("behind them", x.gain(551, 2), 0);
    }

    private static void refused(Due due) {
        SecondHas x = Due.of("s;s;s;lm4");
        SecondHas none = new SecondHas();
        for (int row : new int[] {-1, 5, 50, 500, 445, 1000, 1111, Integer.MAX_VALUE, Integer.MIN_VALUE}) {
            due.is("bids " + row, x.bids(row, 0), Due.HIDDEN);
            due.is("gain " + row, x.gain(row, 0), Due.HIDDEN);
        }
        due.is("the greatest row", x.bids(444, 0), 1);
        due.is("what -1", x.bids(0, -1), Due.HIDDEN);
        due.is("what 4", x.bids(0, 4), Due.HIDDEN);
        due.is("gain of -1", x.gain(0, -1), Due.HIDDEN);
        due.is("gain of 3", x.gain(0, 3), Due.HIDDEN);
        due.is("no land", none.bids(0, 0), Due.HIDDEN);
        due.is("no land", none.gain(0, 0), Due.HIDDEN);
        SecondHas zero = Due.of("s;s;lm0");
        due.is("the one row", zero.bids(0, 0), 1);
        due.is("no other", zero.bids(1, 0), Due.HIDDEN);
    }

    private static void rests(Due due) {
        SecondHas x = Due.of("sw5;sw5;lm1");
        int[] found = {0, 10};
        rows(due, x, found);
        x.change(4, 0);
        rows(due, x, new int[] {0});
        x.change(4, 1);
        rows(due, x, found);
        x.change(0, 3);
        rows(due, x, new int[] {0, 1, 10, 11});
        x.change(3, 1);
        rows(due, x, new int[] {0, 10});
        SecondHas high = Due.of("sw9;sw9;lr1m2");
        rows(due, high, new int[] {22});
        SecondHas four = Due.of("s;s;s;s;lr6m9");
        due.is("all rows rest", four.rests(-1), 10000);
        due.is("the first", four.rests(0), 0);
        due.is("the 64th", four.rests(63), 63);
        due.is("the 65th", four.rests(64), 64);
        due.is("one of them", four.rests(4711), 4711);
        due.is("the last", four.rests(9999), 9999);
        due.is("behind it", four.rests(10000), Due.NONE);
        due.is("five", Due.of("s;s;s;s;s;lm0").rests(-1), Due.HIDDEN);
        due.is("no land", new SecondHas().rests(0), Due.HIDDEN);
    }

    private static void rows(Due due, SecondHas x, int[] want) {
        due.is("how many", x.rests(Due.NONE), want.length);
        for (int i = 0; i < want.length; i++) {
            due.is("rests " + i, x.rests(i), want[i]);
        }
        due.is("behind the last", x.rests(want.length), Due.NONE);
        due.is("no such one", x.rests(-2), Due.NONE);
        due.is("no such one", x.rests(Integer.MAX_VALUE), Due.NONE);
    }

    private static void sellers(Due due) {
        SecondHas x = Due.of("sw9;sw9;lr1m2");
        due.is("least", x.seller(0), 2);
        due.is("greatest", x.seller(1), 2);
        x.change(3, 5);
        due.is("least with the fee", x.seller(0), 7);
        due.is("greatest with the fee", x.seller(1), 7);
        due.is("what 2", x.seller(2), Due.HIDDEN);
        due.is("what -1", x.seller(-1), Due.HIDDEN);
        SecondHas fees = Due.of("s;s;lr6t1f3m1");
        rows(due, fees, new int[] {0, 1, 10});
        due.is("one fee", fees.seller(0), 3);
        due.is("two fees", fees.seller(1), 6);
        due.is("the law is changed", fees.change(3, 4), true);
        due.is("one fee by the new law", fees.seller(0), 4);
        fees.image();
        fees.change(3, 9);
        due.is("by another law", fees.seller(1), 18);
        fees.back();
        due.is("by the law of the image", fees.seller(1), 8);
        due.is("another land", Due.land(fees, "sw9;sw9;lr1m2"), 2);
        due.is("its seller", fees.seller(0), 2);
        due.is("five", Due.of("s;s;s;s;s").seller(0), Due.HIDDEN);
        due.is("no land", new SecondHas().seller(0), Due.HIDDEN);
    }
}
