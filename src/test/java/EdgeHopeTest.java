/** Promises 31 to 35, each sentence that names an edge: hope, bold, voids, near, changes. */
public final class EdgeHopeTest {
    public static void main(String[] args) throws ReflectiveOperationException {
        Sentences.run(EdgeHopeTest.class);
    }

    private static String strivers(int many) {
        return "s;".repeat(many - 1) + "s";
    }

    private static int power(int base, int times) {
        int power = 1;
        for (int i = 0; i < times; i++) {
            power *= base;
        }
        return power;
    }

    // ---- 31

    @Says(promise = 31, words = "over all rows of the others' bids (0 .. MOST each): in how many it has it; its GAINS together")
    static void hopeOfEachBid(Due due) {
        for (int many = 2; many <= 4; many++) {
            for (int most = 0; most <= 9; most++) {
                SecondHas x = Due.of(strivers(many) + ";lr1m" + most);
                for (int bid = 0; bid <= most; bid++) {
                    int low = power(bid + 1, many - 1);
                    int high = power(bid, many - 1);
                    due.is("the lower number is ahead", x.hope(0, bid, 0), low);
                    due.is("its gains", x.hope(0, bid, 1), low * (10 - bid));
                    due.is("the last must be above all", x.hope(many - 1, bid, 0), high);
                    due.is("its gains", x.hope(many - 1, bid, 1), high * (10 - bid));
                }
                due.is("a bid above MOST", x.hope(0, most + 1, 0), Due.HIDDEN);
                due.is("a bid below 0", x.hope(0, -1, 1), Due.HIDDEN);
            }
        }
    }

    @Says(promise = 31, words = "(0 .. MOST each)")
    static void noRowAboveMostIsGoneThrough(Due due) {
        SecondHas x = Due.of("s;s;s;lt1m9");
        x.honour(980);
        x.change(4, 2);
        x.often(0);
        due.is("nobody is above 2", x.hope(0, 2, 0), 0);
        x.often(0);
        due.is("no gain", x.hope(0, 2, 1), 0);
        x.often(0);
        due.is("rows of all", x.voids(), 21);
        x.often(0);
        due.is("bold", x.bold(0), 1);
        x.often(0);
        due.is("together", x.together(0, 7, 1), 12);
    }

    @Says(promise = 31, words = "HIDDEN: no such ones, more than four STRIVERS.")
    static void hopeRefused(Due due) {
        for (int what = 0; what < 2; what++) {
            int one = what;
            for (int nobody : States.NOBODY) {
                Watch.same(due, "striver " + nobody, States::three, x -> x.hope(nobody, 0, one), Due.HIDDEN);
            }
            for (int bid : new int[] {Integer.MIN_VALUE, -2, -1, 6, 7, 9, 10, Integer.MAX_VALUE}) {
                Watch.same(due, "bid " + bid, States::three, x -> x.hope(0, bid, one), Due.HIDDEN);
            }
            Watch.same(due, "five", States::five, x -> x.hope(0, 0, one), Due.HIDDEN);
            Watch.same(due, "six", States::six, x -> x.hope(0, 0, one), Due.HIDDEN);
            Watch.same(due, "no land", States::none, x -> x.hope(0, 0, one), Due.HIDDEN);
        }
        for (int what : new int[] {Integer.MIN_VALUE, -2, -1, 2, 3, Integer.MAX_VALUE}) {
            Watch.same(due, "what " + what, States::three, x -> x.hope(0, 0, what), Due.HIDDEN);
        }
        Watch.same(due, "MOST itself", States::three, x -> x.hope(2, 5, 0), 0);
        Watch.same(due, "one below it", States::three, x -> x.hope(2, 4, 0), 8);
    }

    @Says(promise = 31, words = "over all rows of the others' bids (0 .. MOST each): in how many it has it; its GAINS together")
    static void theGreatestLossAndGain(Due due) {
        SecondHas x = Due.of("sw0;s;s;sw99;lr1f99m9");
        due.is("all rows", x.hope(0, 9, 0), 1000);
        due.is("the greatest loss", x.hope(0, 9, 1), -108000);
        x.change(0, 4);
        x.change(3, 0);
        due.is("the last at 0", x.hope(3, 0, 0), 1000);
        due.is("the greatest gain", x.hope(3, 0, 1), 99000);
        x.change(0, 5);
        due.is("no such place", x.hope(3, 0, 0), 0);
        due.is("nothing", x.hope(3, 0, 1), 0);
    }

    // ---- 32

    @Says(promise = 32, words = "the bid with the greatest of these sums (of several the lowest)")
    static void theLowestOfSeveral(Due due) {
        SecondHas x = Due.of("s;s;s;s;lr5m9");
        for (int i = 0; i < 4; i++) {
            due.is("nobody can have it", x.bold(i), 0);
        }
        SecondHas two = Due.of("sw3;sw2;lr1m9");
        due.is("1 and 2: 2 times 2 and 3 times 1; 0 has 3", two.bold(0), 1);
        due.is("2 less 1 and 0", two.bold(1), 1);
        SecondHas last = Due.of("sw5;sw5;sw5;lr3m9");
        due.is("the lowest has most", last.bold(2), 0);
        due.is("its sum", last.hope(2, 0, 1), 500);
        due.is("less by 1", last.hope(2, 1, 1), 4 * 81);
        SecondHas second = Due.of("s;s;lr1q2m9");
        due.is("another's bid is paid: the highest", second.bold(0), 9);
        due.is("another's bid is paid: the highest", second.bold(1), 9);
        second.change(3, 99);
        due.is("a fee: the lowest", second.bold(0), 0);
        SecondHas zero = Due.of("s;s;lr1m0");
        due.is("one bid alone", zero.bold(0), 0);
        due.is("one bid alone", zero.bold(1), 0);
    }

    @Says(promise = 32, words = "NONE: no such one, more than four STRIVERS.")
    static void boldRefused(Due due) {
        for (int nobody : States.NOBODY) {
            Watch.same(due, "striver " + nobody, States::three, x -> x.bold(nobody), Due.NONE);
        }
        for (int i = 0; i < 5; i++) {
            int one = i;
            Watch.same(due, "five", States::five, x -> x.bold(one), Due.NONE);
            Watch.same(due, "six", States::six, x -> x.bold(one), Due.NONE);
        }
        Watch.same(due, "no land", States::none, x -> x.bold(0), Due.NONE);
        Watch.same(due, "the fourth of four", () -> Due.of("s;s;s;s;lm1"), x -> x.bold(3), 1);
        Watch.same(due, "the fifth of four", () -> Due.of("s;s;s;s;lm1"), x -> x.bold(4), Due.NONE);
    }

    // ---- 33

    @Says(promise = 33, words = "rows of bids of all in which nobody has it")
    static void voidsOfAll(Due due) {
        for (int many = 2; many <= 4; many++) {
            for (int most = 0; most <= 9; most++) {
                SecondHas x = Due.of(strivers(many) + ";lm" + most);
                for (int place = 1; place <= 6; place++) {
                    x.change(0, place);
                    due.is("with ties 0", x.voids(), place <= many ? 0 : power(most + 1, many));
                }
                x.change(1, 1);
                x.change(0, 1);
                int alone = 0;
                for (int bid = 0; bid <= most; bid++) {
                    alone += many * power(bid, many - 1);
                }
                due.is("with ties 1 at the first place", x.voids(), power(most + 1, many) - alone);
                x.change(0, many);
                due.is("at the last as many", x.voids(), power(most + 1, many) - alone);
            }
        }
    }

    @Says(promise = 33, words = "NONE: no LAND, more than four STRIVERS.")
    static void voidsRefused(Due due) {
        Watch.same(due, "no land", States::none, x -> x.voids(), Due.NONE);
        Watch.same(due, "a new one", SecondHas::new, x -> x.voids(), Due.NONE);
        Watch.same(due, "five", States::five, x -> x.voids(), Due.NONE);
        Watch.same(due, "six", States::six, x -> x.voids(), Due.NONE);
        Watch.same(due, "changes nothing", States::three, x -> x.voids(), 216 - 120);
    }

    // ---- 34

    @Says(promise = 34, words = "the bid of a STRIVER nearest to its own by which, others as in the row, it has it (of two the lower)")
    static void nearestToItsOwn(Due due) {
        SecondHas x = Due.of("s;s;s;lr2m9");
        for (int own = 0; own <= 9; own++) {
            due.is("between 7 and 3, the lower number is ahead of 3", x.near(own * 100 + 73, 0), Math.max(3, Math.min(6, own)));
            due.is("between 7 and 3, behind 3 by number", x.near(730 + own, 2), Math.max(4, Math.min(7, own)));
        }
        x.change(1, 1);
        for (int own = 0; own <= 9; own++) {
            due.is("between 7 and 3, alike with none", x.near(own * 100 + 73, 0), Math.max(4, Math.min(6, own)));
        }
        x.change(0, 1);
        due.is("above 8", x.near(280, 2), 9);
        due.is("nothing is above 9", x.near(290, 2), Due.NONE);
        x.change(0, 3);
        due.is("nothing is below 0", x.near(502, 2), Due.NONE);
        due.is("0 is below 1", x.near(519, 2), 0);
        SecondHas six = Due.of("s;s;s;s;s;s;lr6m9");
        due.is("the last of six", six.near(999999, 0), 8);
        due.is("the last of six by number", six.near(999999, 5), 9);
        due.is("MOST 0: its own", Due.of("s;s;lm0").near(0, 1), 0);
        due.is("MOST 0: none", Due.of("s;s;lm0").near(0, 0), Due.NONE);
    }

    @Says(promise = 34, words = "NONE: none, no such ones.")
    static void nearRefused(Due due) {
        for (int row : States.NO_ROW) {
            Watch.same(due, "row " + row, States::three, x -> x.near(row, 1), Due.NONE);
        }
        for (int nobody : States.NOBODY) {
            Watch.same(due, "striver " + nobody, States::three, x -> x.near(321, nobody), Due.NONE);
        }
        Watch.same(due, "no land", States::none, x -> x.near(0, 0), Due.NONE);
        Watch.same(due, "none", () -> Due.of("s;s;lr6"), x -> x.near(0, 0), Due.NONE);
        Watch.same(due, "changes nothing", States::three, x -> x.near(321, 1), 2);
    }

    // ---- 35

    @Says(promise = 35, words = "how many STRIVERS could have it by another bid alone (who has it not)")
    static void howManyCould(Due due) {
        SecondHas x = Due.of("s;s;s;s;s;s;lr1m9");
        due.is("all others", x.changes(0), 5);
        due.is("those ahead by number of 9", x.changes(9), 5);
        due.is("none ahead of 9 by number", x.changes(900000), 0);
        due.is("two ahead of 9 by number", x.changes(9000), 2);
        x.change(1, 1);
        due.is("nobody has it, all could", x.changes(0), 6);
        due.is("one alone with 9 has it", x.changes(9), 0);
        due.is("two at 9: neither could", x.changes(99), 0);
        x.change(4, 0);
        due.is("one row alone", x.changes(0), 0);
        SecondHas six = Due.of("s;s;lr3");
        due.is("no such place", six.changes(0), 0);
    }

    @Says(promise = 35, words = "NONE: no such row, no LAND.")
    static void changesRefused(Due due) {
        for (int row : States.NO_ROW) {
            Watch.same(due, "row " + row, States::three, x -> x.changes(row), Due.NONE);
        }
        Watch.same(due, "no land", States::none, x -> x.changes(0), Due.NONE);
        Watch.same(due, "a new one", SecondHas::new, x -> x.changes(0), Due.NONE);
        Watch.same(due, "changes nothing", States::three, x -> x.changes(321), 0);
        Watch.same(due, "changes nothing", States::three, x -> x.changes(421), 1);
        Watch.same(due, "six are fine", States::six, x -> x.changes(0), 0);
    }
}
