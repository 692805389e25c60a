/** Promises 21 and 22: waits, spur. */
public final class WaitingTest {
    public static void main(String[] args) {
        Due due = new Due();
        firstHasIt(due);
        secondHasIt(due);
        spurs(due);
        refused(due);
        due.end("WaitingTest");
    }

    private static void turns(Due due, SecondHas x, int turns, int... want) {
        for (int i = 0; i < want.length; i++) {
            due.is(turns + " turns, striver " + i, x.waits(turns, i), want[i]);
        }
    }

    private static void firstHasIt(Due due) {
        SecondHas x = Due.of("sw5;sw5;lr1");
        turns(due, x, 1, 0, Due.NONE);
        turns(due, x, 2, 0, Due.NONE);
        turns(due, x, 60, 0, Due.NONE);
        x.change(3, 5);
        turns(due, x, 2, Due.NONE, Due.NONE);
        x.change(3, 4);
        turns(due, x, 2, 0, Due.NONE);
        SecondHas other = Due.of("sw5;sw3;lr1f4");
        turns(due, other, 1, 0, Due.NONE);
        turns(due, other, 2, 0, Due.NONE);
        turns(due, other, 3, 2, Due.NONE);
        turns(due, other, 4, 2, Due.NONE);
        turns(due, other, 59, 58, Due.NONE);
        turns(due, other, 60, 58, Due.NONE);
        SecondHas three = Due.of("sw1;sw9;sw2;lr1f3");
        turns(due, three, 1, Due.NONE, Due.NONE, Due.NONE);
        turns(due, three, 3, Due.NONE, 1, Due.NONE);
        turns(due, three, 5, Due.NONE, 4, Due.NONE);
        SecondHas worthless = Due.of("sw0;sw0;lr1");
        turns(due, worthless, 9, Due.NONE, Due.NONE);
    }

    private static void secondHasIt(Due due) {
        SecondHas x = Due.of("sw5;sw5;sw99");
        turns(due, x, 9, Due.NONE, Due.NONE, Due.NONE);
        x.change(3, 9);
        turns(due, x, 9, Due.NONE, Due.NONE, Due.NONE);
        x.change(0, 3);
        turns(due, x, 9, Due.NONE, Due.NONE, Due.NONE);
    }

    private static void spurs(Due due) {
        SecondHas first = Due.of("sw3;sw5;lr1");
        due.is("one turn", first.spur(1), 2);
        due.is("two turns", first.spur(2), 4);
        due.is("sixty turns", first.spur(60), 4);
        first.change(3, 99);
        due.is("in place of the fee told", first.spur(2), 4);
        SecondHas dear = Due.of("sw99;s;lr1");
        due.is("98", dear.spur(1), 98);
        SecondHas second = Due.of("sw5;sw5;sw5");
        due.is("nobody can be second", second.spur(1), Due.HIDDEN);
        due.is("the first is paid 1", second.spur(2), -1);
        due.is("the first is paid 1", second.spur(60), -1);
        SecondHas none = Due.of("sw0;sw0;sw0");
        due.is("worth nothing", none.spur(9), Due.HIDDEN);
        SecondHas third = Due.of("s;s;s;lr3");
        due.is("nobody goes as the second", third.spur(60), Due.HIDDEN);
        SecondHas worthless = Due.of("sw0;sw0;lr1");
        due.is("paid for the first place", worthless.spur(4), -1);
        SecondHas lures = Due.of("sw20;sw0;lr2");
        due.is("only striver 0 wants it, behind striver 1", lures.spur(2), Due.HIDDEN);
        due.is("striver 0 waits, if it is paid less for going", lures.spur(3), -1);
    }

    private static void refused(Due due) {
        SecondHas x = Due.of("s;s;lr1");
        SecondHas none = new SecondHas();
        for (int turns : new int[] {0, -1, 61, Integer.MIN_VALUE, Integer.MAX_VALUE}) {
            due.is("waits " + turns, x.waits(turns, 0), Due.HIDDEN);
            due.is("spur " + turns, x.spur(turns), Due.HIDDEN);
        }
        due.is("no such striver", x.waits(1, 2), Due.HIDDEN);
        due.is("no such striver", x.waits(1, -1), Due.HIDDEN);
        due.is("no land", none.waits(1, 0), Due.HIDDEN);
        due.is("no land", none.spur(1), Due.HIDDEN);
    }
}
