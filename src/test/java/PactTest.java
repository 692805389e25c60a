/** Promises 17 to 20: cure, firm, together, treason. */
public final class PactTest {
    public static void main(String[] args) {
        Due due = new Due();
        cures(due);
        firmness(due);
        togetherness(due);
        treasons(due);
        refused(due);
        due.end("PactTest");
    }

    private static void cure(Due due, SecondHas x, int row, int who, int bid, int more) {
        due.is("cure of " + row + ": who", x.cure(row, 0), who);
        due.is("cure of " + row + ": bid", x.cure(row, 1), bid);
        due.is("cure of " + row + ": more", x.cure(row, 2), more);
    }

    private static void cures(Due due) {
        SecondHas x = Due.of("sw10;sw10;sw30;lr1m3");
        cure(due, x, 0, 2, 1, 29);
        cure(due, x, 1, 0, 1, 9);
        cure(due, x, 300, 0, 0, 3);
        SecondHas like = Due.of("sw10;sw10;sw10;lr1m3");
        cure(due, like, 3, 0, 3, 7);
        cure(due, like, 33, 0, 3, 7);
        cure(due, like, 333, Due.NONE, Due.NONE, 0);
        SecondHas fee = Due.of("sw0;sw0;lr2f9m1");
        cure(due, fee, 10, Due.NONE, Due.NONE, 0);
        cure(due, fee, 11, 0, 0, 9);
        due.is("what -1", x.cure(0, -1), Due.HIDDEN);
        due.is("what 3", x.cure(0, 3), Due.HIDDEN);
    }

    private static void firmness(Due due) {
        SecondHas x = Due.of("sw10;sw10;sw10;lr1m3");
        due.is("the others want it", x.firm(3, 1), 0);
        due.is("who has it would pay less", x.firm(3, 4), 0);
        due.is("both", x.firm(3, 5), 0);
        due.is("at the top", x.firm(333, 7), 1);
        due.is("at the top, one", x.firm(333, 2), 1);
        SecondHas six = Due.of("s;s;s;s;s;s;lr6m0");
        due.is("six of them", six.firm(0, 63), 1);
        due.is("above", six.firm(0, 64), Due.NONE);
    }

    private static void togetherness(Due due) {
        SecondHas x = Due.of("sw10;sw12;sw5;lr1m3");
        due.is("all together", x.together(333, 7, 0), 11);
        due.is("that row", x.together(333, 7, 1), 10);
        due.is("one against 3", x.together(33, 1, 0), 7);
        due.is("its row", x.together(33, 1, 1), 333);
        due.is("two against 3", x.together(3, 3, 0), 9);
        due.is("the row of two", x.together(3, 3, 1), 33);
        due.is("one that cannot have it", x.together(330, 4, 0), 0);
        due.is("its least row", x.together(332, 4, 1), 330);
        x.change(3, 9);
        due.is("all less the fee", x.together(0, 7, 0), 2);
        due.is("one who stays out", x.together(0, 4, 0), 0);
        SecondHas five = Due.of("s;s;s;s;s;s;lr1m1");
        due.is("four of six", five.together(0, 15, 0), 10);
        due.is("the last four of six", five.together(0, 60, 0), 9);
        due.is("their least row", five.together(0, 60, 1), 1);
        due.is("five of six", five.together(0, 31, 0), Due.HIDDEN);
        due.is("six of six", five.together(0, 63, 1), Due.HIDDEN);
        SecondHas loss = Due.of("sw0;sw0;lr1f9m0");
        due.is("a loss at the best", loss.together(0, 1, 0), -9);
        due.is("its row", loss.together(0, 1, 1), 0);
    }

    private static void treasons(Due due) {
        SecondHas x = Due.of("sw10;sw12;sw5;lr1m3");
        due.is("the one who has it not wants it", x.treason(333, 7), 0);
        due.is("alone there is none", x.treason(33, 1), Due.NONE);
        SecondHas more = Due.of("sw4;sw12;sw9;lr1m3");
        due.is("who has most more", more.treason(0, 7), 2);
        SecondHas like = Due.of("sw5;sw12;sw6;lr1m3");
        due.is("of several the lowest", like.treason(0, 7), 0);
        SecondHas five = Due.of("s;s;s;s;s;s;lr1m1");
        due.is("five of six", five.treason(0, 31), Due.HIDDEN);
        due.is("four of six", five.treason(0, 30), 1);
    }

    private static void refused(Due due) {
        SecondHas x = Due.of("s;s;s;lm4");
        SecondHas none = new SecondHas();
        for (int row : new int[] {-1, 5, 500, 1000, Integer.MAX_VALUE, Integer.MIN_VALUE}) {
            due.is("cure " + row, x.cure(row, 0), Due.HIDDEN);
            due.is("firm " + row, x.firm(row, 1), Due.NONE);
            due.is("together " + row, x.together(row, 1, 0), Due.HIDDEN);
            due.is("treason " + row, x.treason(row, 1), Due.HIDDEN);
        }
        for (int some : new int[] {0, -1, 8, 9, Integer.MAX_VALUE, Integer.MIN_VALUE}) {
            due.is("firm of " + some, x.firm(0, some), Due.NONE);
            due.is("together of " + some, x.together(0, some, 0), Due.HIDDEN);
            due.is("treason of " + some, x.treason(0, some), Due.HIDDEN);
        }
        due.is("together what", x.together(0, 1, 2), Due.HIDDEN);
        due.is("together what", x.together(0, 1, -1), Due.HIDDEN);
        due.is("no land", none.cure(0, 0), Due.HIDDEN);
        due.is("no land", none.firm(0, 1), Due.NONE);
        due.is("no land", none.together(0, 1, 0), Due.HIDDEN);
        due.is("no land", none.treason(0, 1), Due.HIDDEN);
    }
}
