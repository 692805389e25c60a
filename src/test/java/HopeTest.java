/** Promises 31 to 35: hope, bold, voids, near, changes. */
public final class HopeTest {
    public static void main(String[] args) {
        Due due = new Due();
        hopes(due);
        bolds(due);
        voids(due);
        nears(due);
        changes(due);
        behindTheBook(due);
        refused(due);
        due.end("HopeTest");
    }

    private static void hopes(Due due) {
        SecondHas x = Due.of("sw10;sw10;sw10;lr1m3f1");
        due.is("3 is never beaten by a like one behind", x.hope(0, 3, 0), 16);
        due.is("its gains, less the fee", x.hope(0, 3, 1), 16 * 6);
        due.is("1 has it against 0 and 1", x.hope(0, 1, 0), 4);
        due.is("its gains", x.hope(0, 1, 1), 4 * 8);
        due.is("the last must be above", x.hope(2, 1, 0), 1);
        due.is("its gains", x.hope(2, 1, 1), 8);
        x.change(1, 1);
        due.is("with ties nobody may be alike", x.hope(0, 3, 0), 9);
        due.is("the fee is paid in all rows", x.hope(0, 3, 1), 9 * 7 - 16);
        x.change(0, 4);
        due.is("in no row", x.hope(0, 3, 0), 0);
        due.is("a loss", x.hope(0, 3, 1), -16);
        SecondHas four = Due.of("s;s;s;s;lr1m9");
        due.is("a thousand rows", four.hope(0, 9, 0), 1000);
        due.is("their gains", four.hope(0, 9, 1), 1000);
    }

    private static void bolds(Due due) {
        SecondHas x = Due.of("sw10;sw2;sw1;lr1m3");
        due.is("worth much", x.bold(0), 3);
        due.is("worth 2", x.bold(1), 1);
        due.is("worth 1: of several the lowest", x.bold(2), 0);
        x.change(3, 99);
        due.is("a loss: the least loss", x.bold(0), 0);
        x.change(0, 3);
        due.is("the last place", x.bold(2), 0);
        SecondHas up = Due.of("sw9;sw9;lr1m1q2");
        due.is("another's bid is paid", up.bold(0), 1);
    }

    private static void voids(Due due) {
        SecondHas x = Due.of("s;s;s;lm2");
        due.is("never with ties 0", x.voids(), 0);
        x.change(0, 4);
        due.is("always, if there is no such place", x.voids(), 27);
        x.change(0, 2);
        x.change(1, 1);
        due.is("with ties: in 6 rows all are unlike", x.voids(), 27 - 6);
        x.change(0, 1);
        due.is("with ties: the first is alone in 6 + 9 rows", x.voids(), 27 - 15);
        x.change(4, 0);
        due.is("one row", x.voids(), 1);
        SecondHas four = Due.of("s;s;s;s;lm9r5");
        due.is("all rows", four.voids(), 10000);
    }

    private static void nears(Due due) {
        SecondHas x = Due.of("s;s;s;lr2m9");
        due.is("its own", x.near(531, 1), 3);
        due.is("up to the lowest that is enough", x.near(531, 2), 4);
        due.is("down below a like one, of which it would be ahead", x.near(931, 0), 2);
        due.is("down to a like one that is ahead by number", x.near(391, 1), 3);
        x.change(0, 1);
        due.is("the first must be above", x.near(531, 2), 6);
        due.is("the first may be alike by number", x.near(153, 0), 5);
        due.is("none: 9 is bid", x.near(900, 1), Due.NONE);
        x.change(1, 1);
        x.change(0, 2);
        due.is("none between two alike", x.near(545, 1), Due.NONE);
        SecondHas two = Due.of("s;s;s;lr3t1m9");
        due.is("two alike ahead", two.near(559, 2), 4);
        due.is("none behind 0", two.near(550, 0), Due.NONE);
        SecondHas gap = Due.of("s;s;s;s;lr2t1m9");
        due.is("neither of two alike", gap.near(4846, 0), 7);
    }

    private static void changes(Due due) {
        SecondHas x = Due.of("s;s;s;lr1m5");
        due.is("two others could", x.changes(300), 2);
        due.is("none could", x.changes(500), 0);
        due.is("the lower ones could", x.changes(5), 2);
        due.is("one could", x.changes(50), 1);
        x.change(0, 4);
        due.is("nobody could", x.changes(300), 0);
        SecondHas ties = Due.of("s;s;s;lr1t1m5");
        due.is("nobody has it, all could", ties.changes(333), 3);
        due.is("nobody has it, nobody could be alone", ties.changes(550), 0);
        due.is("no such row", x.changes(6), Due.NONE);
        due.is("no such row", x.changes(-1), Due.NONE);
        due.is("no such row", x.changes(1000), Due.NONE);
    }

    /** A row of the book may be above MOST; what is asked behind it must not begin there. */
    private static void behindTheBook(Due due) {
        SecondHas x = Due.of("s;s;s;lt1m9");
        x.honour(989);
        x.change(4, 2);
        x.often(0);
        due.is("voids", x.voids(), 21);
        x.often(0);
        due.is("hope", x.hope(0, 1, 0), 2);
        x.often(0);
        due.is("bold", x.bold(0), 1);
        x.often(0);
        due.is("rests", x.rests(0), 0);
        int rests = x.rests(Due.NONE);
        x.often(0);
        x.change(3, 0);
        due.is("as many rests", x.rests(Due.NONE), rests);
        x.often(0);
        due.is("together", x.together(0, 7, 0), 9);
        due.is("its row", x.together(0, 7, 1), 12);
        x.often(0);
        due.is("rounds", x.rounds(1), 0);
    }

    private static void refused(Due due) {
        SecondHas none = new SecondHas();
        SecondHas five = Due.of("s;s;s;s;s;lm0");
        SecondHas x = Due.of("s;s;lm3");
        due.is("no land", none.hope(0, 0, 0), Due.HIDDEN);
        due.is("no land", none.bold(0), Due.NONE);
        due.is("no land", none.voids(), Due.NONE);
        due.is("no land", none.near(0, 0), Due.NONE);
        due.is("no land", none.changes(0), Due.NONE);
        due.is("five", five.hope(0, 0, 0), Due.HIDDEN);
        due.is("five", five.bold(0), Due.NONE);
        due.is("five", five.voids(), Due.NONE);
        due.is("five are fine", five.near(0, 1), 0);
        due.is("five are fine", five.changes(0), 0);
        due.is("hope of -1", x.hope(-1, 0, 0), Due.HIDDEN);
        due.is("hope of 2", x.hope(2, 0, 0), Due.HIDDEN);
        due.is("a bid of -1", x.hope(0, -1, 0), Due.HIDDEN);
        due.is("a bid of 4", x.hope(0, 4, 0), Due.HIDDEN);
        due.is("what -1", x.hope(0, 0, -1), Due.HIDDEN);
        due.is("what 2", x.hope(0, 0, 2), Due.HIDDEN);
        due.is("bold of -1", x.bold(-1), Due.NONE);
        due.is("bold of 2", x.bold(2), Due.NONE);
        due.is("near of -1", x.near(0, -1), Due.NONE);
        due.is("near of 2", x.near(0, 2), Due.NONE);
        due.is("near in no row", x.near(4, 1), Due.NONE);
    }
}
