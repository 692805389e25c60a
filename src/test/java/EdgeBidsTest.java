/** Promises 13 to 20, each sentence that names an edge: bids, gain, rests, seller, cure, firm, together, treason. */
public final class EdgeBidsTest {
    private static final int[] WILD = {Integer.MIN_VALUE, -1000000, -2, 1000000, Integer.MAX_VALUE};

    public static void main(String[] args) throws ReflectiveOperationException {
        Sentences.run(EdgeBidsTest.class);
    }

    private static String strivers(int many) {
        return "s;".repeat(many - 1) + "s";
    }

    // ---- which rows there are

    @Says(promise = 13, words = "a row (digits to the base 10, STRIVER 0 the highest; each 0 .. MOST)")
    static void eachRowOfTwo(Due due) {
        for (int most = 0; most <= 9; most++) {
            for (int from = -20; from <= 130; from += 50) {
                SecondHas x = Due.of("s;s;lr1m" + most);
                for (int row = from; row < from + 50; row++) {
                    boolean sound = row >= 0 && row / 10 <= most && row % 10 <= most;
                    int want = !sound ? Due.HIDDEN : row / 10 >= row % 10 ? 0 : 1;
                    due.is("bids " + row + " with " + most, x.bids(row, 0), want);
                    due.is("gain " + row + " with " + most, x.gain(row, 0) == Due.HIDDEN, !sound);
                }
            }
        }
    }

    @Says(promise = 13, words = "a row (digits to the base 10, STRIVER 0 the highest; each 0 .. MOST)")
    static void eachDigitAboveMost(Due due) {
        int power = 10;
        for (int many = 2; many <= 6; many++) {
            power *= 10;
            for (int most = 0; most <= 9; most++) {
                SecondHas x = Due.of(strivers(many) + ";lr1m" + most);
                int high = (power - 1) / 9 * most;
                due.is("the lowest row", x.bids(0, 0), 0);
                due.is("the highest row", x.bids(high, 1), most);
                due.is("a digit too many", x.bids(power, 0), Due.HIDDEN);
                due.is("a digit too many", x.bids(power + high, 0), Due.HIDDEN);
                for (int one = 1; one < power; one *= 10) {
                    due.is("a digit above MOST", x.bids(high + one, 0), Due.HIDDEN);
                    due.is("below 0", x.bids(-one, 0), Due.HIDDEN);
                }
            }
        }
    }

    @Says(promise = 13, words = "HIDDEN: no such row, no LAND, no such what.")
    static void bidsRefused(Due due) {
        for (int what = 0; what < 4; what++) {
            int one = what;
            for (int row : States.NO_ROW) {
                Watch.same(due, "row " + row, States::three, x -> x.bids(row, one), Due.HIDDEN);
            }
            Watch.same(due, "no land", States::none, x -> x.bids(0, one), Due.HIDDEN);
        }
        for (int what : new int[] {Integer.MIN_VALUE, -2, -1, 4, 5, Integer.MAX_VALUE}) {
            Watch.same(due, "what " + what, States::three, x -> x.bids(321, what), Due.HIDDEN);
        }
        Watch.same(due, "changes nothing", States::three, x -> x.bids(321, 3), 9);
    }

    // ---- 13

    @Says(promise = 13, words = "who has it (what 0; NONE: nobody), what is PAID (1; 0: nobody)")
    static void morePlacesThanStrivers(Due due) {
        for (int many = 2; many <= 6; many++) {
            SecondHas x = Due.of(strivers(many) + ";lf3");
            for (int place = 1; place <= 6; place++) {
                x.change(0, place);
                due.is("has it", x.bids(0, 0), place <= many ? place - 1 : Due.NONE);
                due.is("first", x.bids(0, 2), 1);
                due.is("paid", x.bids(1, 1), place == 1 ? 1 : 0);
                due.is("all", x.bids(0, 3), 3);
            }
        }
    }

    @Says(promise = 13, words = "with TIES 0 the one of whom just PLACE less 1 are ahead; with TIES 1 the one of whom just PLACE less 1 are ahead, and with whom nobody is alike; else nobody.")
    static void likeBids(Due due) {
        SecondHas x = Due.of("s;s;s;s;s;s;lm9");
        int row = 557729;
        int[] byNumber = {5, 2, 3, 0, 1, 4};
        int[] withTies = {5, Due.NONE, Due.NONE, Due.NONE, Due.NONE, 4};
        for (int place = 1; place <= 6; place++) {
            x.change(0, place);
            x.change(1, 0);
            due.is("the lower number is ahead", x.bids(row, 0), byNumber[place - 1]);
            due.is("all alike", x.bids(444444, 0), place - 1);
            x.change(1, 1);
            due.is("nobody may be alike", x.bids(row, 0), withTies[place - 1]);
            due.is("all alike", x.bids(444444, 0), Due.NONE);
            due.is("all alike: nothing is paid", x.bids(444444, 1), 0);
            due.is("all unlike", x.bids(123456, 0), 6 - place);
        }
    }

    @Says(promise = 13, words = "The FIRST: of whom nobody is ahead (with TIES 1 all such; with TIES 0 one): each pays the FEE.")
    static void whoIsFirst(Due due) {
        SecondHas x = Due.of("s;s;s;s;s;s;lr6f99m9");
        due.is("one of all", x.bids(999999, 2), 1);
        due.is("the last one", x.bids(1, 2), 32);
        due.is("one of the last two", x.bids(11, 2), 16);
        due.is("one fee", x.bids(111111, 3), 1 + 99);
        x.change(1, 1);
        due.is("all of them", x.bids(999999, 2), 63);
        due.is("six fees", x.bids(999999, 3), 594);
        due.is("the last one", x.bids(1, 2), 32);
        due.is("the last two", x.bids(11, 2), 48);
        due.is("two fees", x.bids(11, 3), 198);
        due.is("all at 0", x.bids(0, 2), 63);
    }

    @Says(promise = 13, words = "1 the bid of the one next ahead of it in the order (its own, if there is none), 2 that of the one next behind (0, if there is none)")
    static void whatIsPaidAtTheEnds(Due due) {
        SecondHas x = Due.of("s;s;s;lm9");
        int[][] want = {{7, 5, 3}, {7, 7, 5}, {5, 3, 0}};
        for (int paid = 0; paid < 3; paid++) {
            x.change(2, paid);
            for (int place = 1; place <= 3; place++) {
                x.change(0, place);
                due.is("paid " + paid + " at " + place, x.bids(375, 1), want[paid][place - 1]);
            }
        }
    }

    @Says(promise = 13, words = "(The order for that: with TIES 1, too, of like ones the lower number is ahead.)")
    static void paidNextToLikeOnes(Due due) {
        SecondHas x = Due.of("s;s;s;s;lt1m9");
        x.change(0, 3);
        x.change(2, 1);
        due.is("two alike ahead", x.bids(7725, 1), 7);
        x.change(0, 1);
        x.change(2, 2);
        due.is("two alike behind", x.bids(4494, 1), 4);
        x.change(0, 4);
        due.is("none behind three alike", x.bids(4404, 1), 0);
        x.change(2, 1);
        due.is("three alike ahead", x.bids(4404, 1), 4);
    }

    // ---- 14

    @Says(promise = 14, words = "WORTH less what is PAID, if it has it, 0 else; less the FEE, if it is FIRST.")
    static void theGreatestAndTheLeastGain(Due due) {
        SecondHas x = Due.of("sw0;sw99;lr1f99m9");
        due.is("the least", x.gain(90, 0), -108);
        due.is("of the other", x.gain(90, 1), 0);
        x.change(3, 0);
        due.is("worth 99 and paid 1", x.gain(1, 1), 98);
        x.change(0, 2);
        due.is("the greatest", x.gain(0, 1), 99);
        due.is("of the other", x.gain(0, 0), 0);
        x.change(1, 1);
        x.change(3, 99);
        due.is("the fee alone", x.gain(0, 0), -99);
        due.is("the fee alone", x.gain(0, 1), -99);
    }

    @Says(promise = 14, words = "HIDDEN: no such ones.")
    static void gainRefused(Due due) {
        for (int row : States.NO_ROW) {
            Watch.same(due, "row " + row, States::three, x -> x.gain(row, 0), Due.HIDDEN);
        }
        for (int nobody : States.NOBODY) {
            Watch.same(due, "striver " + nobody, States::three, x -> x.gain(321, nobody), Due.HIDDEN);
        }
        Watch.same(due, "no land", States::none, x -> x.gain(0, 0), Due.HIDDEN);
        Watch.same(due, "changes nothing", States::three, x -> x.gain(321, 0), -7);
    }

    // ---- 15

    @Says(promise = 15, words = "RESTS (4 STRIVERS at most, all others none)")
    static void restsOfFourAtMost(Due due) {
        for (int many = 2; many <= 4; many++) {
            due.is("rests of " + many, Due.of(strivers(many) + ";lm0").rests(-1), 1);
        }
        Watch.same(due, "five", States::five, x -> x.rests(-1), Due.HIDDEN);
        Watch.same(due, "five", States::five, x -> x.rests(0), Due.HIDDEN);
        Watch.same(due, "six", States::six, x -> x.rests(-1), Due.HIDDEN);
        Watch.same(due, "no land", States::none, x -> x.rests(-1), Due.HIDDEN);
        Watch.same(due, "no land", States::none, x -> x.rests(0), Due.HIDDEN);
    }

    @Says(promise = 15, words = "how many (i NONE), the i-th. NONE: no such one.")
    static void theFirstAndTheLast(Due due) {
        SecondHas none = Due.of("s;s;s;s;lr6m9");
        due.is("nobody can have it: all rows", none.rests(-1), 10000);
        for (int i : new int[] {0, 1, 63, 64, 65, 127, 128, 9983, 9984, 9998, 9999}) {
            due.is("the i-th", none.rests(i), i);
        }
        due.is("behind the last", none.rests(10000), Due.NONE);
        SecondHas few = Due.of("s;s;s;lr6m2");
        int at = 0;
        for (int row = 0; row <= 222; row++) {
            if (row / 10 % 10 <= 2 && row % 10 <= 2) {
                due.is("rising", few.rests(at), row);
                at++;
            }
        }
        due.is("27 rows", few.rests(-1), 27);
        due.is("no 28th", few.rests(27), Due.NONE);
    }

    @Says(promise = 15, words = "how many (i NONE), the i-th. NONE: no such one.")
    static void restsRefused(Due due) {
        for (int i : new int[] {Integer.MIN_VALUE, -1000000, -3, -2, 216, 217, 10000, Integer.MAX_VALUE}) {
            Watch.same(due, "rests " + i, States::three, x -> x.rests(i), Due.NONE);
        }
        SecondHas x = States.three();
        int many = x.rests(-1);
        due.is("there are some", many > 0, true);
        Watch.same(due, "behind the last", States::three, y -> y.rests(many), Due.NONE);
        due.is("the last", x.rests(many - 1) >= 0, true);
    }

    @Says(promise = 15, words = "rows by which no STRIVER has a greater GAIN by another bid alone")
    static void restsByTheLawAsItIs(Due due) {
        SecondHas x = Due.of("sw9;sw9;lr1m9");
        due.is("8 gains 1 still, 9 nothing", x.rests(-1), 3);
        due.is("8 and 8", x.rests(0), 88);
        due.is("8 and 9", x.rests(1), 89);
        due.is("9 and 9", x.rests(2), 99);
        x.change(4, 3);
        due.is("3 and 3", x.rests(0), 33);
        due.is("alone", x.rests(1), Due.NONE);
        x.image();
        x.change(4, 0);
        due.is("one row", x.rests(-1), 1);
        x.back();
        due.is("by the law of the image", x.rests(0), 33);
        x.change(0, 3);
        due.is("nobody can have it", x.rests(-1), 16);
    }

    // ---- 16

    @Says(promise = 16, words = "SELLER: what is PAID and all FEES: the least, the greatest over RESTS.")
    static void sellersLeastAndGreatest(Due due) {
        SecondHas x = Due.of("s;s;s;s;lr6t1f99m0");
        due.is("four fees", x.seller(0), 396);
        due.is("four fees", x.seller(1), 396);
        x.change(3, 0);
        due.is("nothing", x.seller(0), 0);
        due.is("nothing", x.seller(1), 0);
        SecondHas two = Due.of("sw9;sw9;lr1m9");
        due.is("the least", two.seller(0), 8);
        due.is("the greatest", two.seller(1), 9);
        two.change(3, 2);
        due.is("the least with the fee", two.seller(0), 6 + 2);
        due.is("the greatest with the fee", two.seller(1), 7 + 2);
        two.change(4, 5);
        due.is("no more than MOST", two.seller(1), 5 + 2);
    }

    @Says(promise = 16, words = "HIDDEN likewise, no such what.")
    static void sellerRefused(Due due) {
        for (int what : new int[] {Integer.MIN_VALUE, -2, -1, 2, 3, Integer.MAX_VALUE}) {
            Watch.same(due, "what " + what, States::three, x -> x.seller(what), Due.HIDDEN);
        }
        for (int what = 0; what < 2; what++) {
            int one = what;
            Watch.same(due, "five", States::five, x -> x.seller(one), Due.HIDDEN);
            Watch.same(due, "six", States::six, x -> x.seller(one), Due.HIDDEN);
            Watch.same(due, "no land", States::none, x -> x.seller(one), Due.HIDDEN);
        }
    }

    @Says(promise = 16, words = "NONE: no RESTS.")
    static void thereAreAlwaysRests(Due due) {
        for (int law = 0; law < 6; law++) {
            for (int worths = 0; worths < 144; worths++) {
                SecondHas x = Due.of("sw" + worths / 12 + ";sw" + worths % 12 + ";sw5;lr1m3t" + law % 2 + "q" + law / 2 + "f" + worths % 5);
                due.is("rests", x.rests(-1) > 0, true);
                due.is("seller", x.seller(0) >= 0 && x.seller(1) >= x.seller(0), true);
            }
        }
    }

    // ---- 17

    @Says(promise = 17, words = "the STRIVER with the greatest GAIN more by another bid alone (of several the lowest; 0 more: none), that bid (of several the lowest), how much more")
    static void ofSeveralTheLowest(Due due) {
        SecondHas x = Due.of("sw10;sw10;sw10;lr1q2m3");
        cure(due, x, 0, 1, 1, 10);
        cure(due, x, 3, 0, 3, 7);
        cure(due, x, 300, Due.NONE, Due.NONE, 0);
        SecondHas six = Due.of("s;s;s;s;s;sw11;lr1m9");
        cure(due, six, 0, 5, 1, 10);
        cure(due, six, 999999, Due.NONE, Due.NONE, 0);
        cure(due, six, 900000, 0, 0, 9);
        SecondHas one = Due.of("sw1;sw1;lr1m9");
        cure(due, one, 0, Due.NONE, Due.NONE, 0);
        SecondHas row = Due.of("sw99;sw99;lr1f99m0");
        cure(due, row, 0, Due.NONE, Due.NONE, 0);
    }

    private static void cure(Due due, SecondHas x, int row, int who, int bid, int more) {
        due.is("who in " + row, x.cure(row, 0), who);
        due.is("bid in " + row, x.cure(row, 1), bid);
        due.is("more in " + row, x.cure(row, 2), more);
    }

    @Says(promise = 17, words = "HIDDEN: no such row, no LAND, no such what.")
    static void cureRefused(Due due) {
        for (int what = 0; what < 3; what++) {
            int one = what;
            for (int row : States.NO_ROW) {
                Watch.same(due, "row " + row, States::three, x -> x.cure(row, one), Due.HIDDEN);
            }
            Watch.same(due, "no land", States::none, x -> x.cure(0, one), Due.HIDDEN);
        }
        for (int what : new int[] {Integer.MIN_VALUE, -2, -1, 3, 4, Integer.MAX_VALUE}) {
            Watch.same(due, "what " + what, States::three, x -> x.cure(321, what), Due.HIDDEN);
        }
        Watch.same(due, "changes nothing", States::six, x -> x.cure(0, 2), 0);
    }

    // ---- 18 to 20

    @Says(promise = 18, words = "PACT of some STRIVERS (bits, not 0)")
    static void eachPact(Due due) {
        for (int many = 2; many <= 6; many++) {
            for (int some = -2; some <= 66; some++) {
                SecondHas x = Due.of(strivers(many) + ";lr6m0");
                boolean sound = some > 0 && some < 1 << many;
                due.is("firm " + some + " of " + many, x.firm(0, some), sound ? 1 : Due.NONE);
                boolean few = sound && Integer.bitCount(some) <= 4;
                boolean last = many == 6 && (some >> 5 & 1) != 0;
                due.is("together " + some + " of " + many, x.together(0, some, 0), !few ? Due.HIDDEN : last ? 10 : 0);
                due.is("its row", x.together(0, some, 1), few ? 0 : Due.HIDDEN);
                due.is("treason " + some + " of " + many, x.treason(0, some), few ? Due.NONE : Due.HIDDEN);
            }
        }
    }

    @Says(promise = 18, words = "NONE: no such ones.")
    static void firmRefused(Due due) {
        for (int row : States.NO_ROW) {
            Watch.same(due, "row " + row, States::three, x -> x.firm(row, 1), Due.NONE);
        }
        for (int some : new int[] {0, -1, 8, 9, 15, 16, 64, -8, 1 << 30}) {
            Watch.same(due, "some " + some, States::three, x -> x.firm(321, some), Due.NONE);
        }
        for (int some : WILD) {
            Watch.same(due, "some " + some, States::three, x -> x.firm(321, some), Due.NONE);
        }
        Watch.same(due, "no land", States::none, x -> x.firm(0, 1), Due.NONE);
        Watch.same(due, "all six are fine", States::six, x -> x.firm(0, 63), 1);
        Watch.same(due, "all five are fine", States::five, x -> x.firm(0, 31), 1);
    }

    @Says(promise = 18, words = "FIRM, if none of them has more by another bid alone")
    static void firmOfSome(Due due) {
        SecondHas x = Due.of("sw10;sw1;sw10;lr1m3");
        due.is("1 would pay what it is worth", x.firm(0, 2), 1);
        due.is("2 would have more", x.firm(0, 4), 0);
        due.is("0 has it", x.firm(0, 1), 1);
        due.is("0 and 1", x.firm(0, 3), 1);
        due.is("one of all has more", x.firm(0, 7), 0);
        Watch.same(due, "changes nothing", States::three, y -> y.firm(321, 7), 0);
    }

    @Says(promise = 19, words = "HIDDEN: no such ones, more than four of them.")
    static void togetherRefused(Due due) {
        for (int what = 0; what < 2; what++) {
            int one = what;
            for (int row : States.NO_ROW) {
                Watch.same(due, "row " + row, States::three, x -> x.together(row, 1, one), Due.HIDDEN);
            }
            for (int some : new int[] {0, -1, 8, 9, 15, 64, Integer.MIN_VALUE, Integer.MAX_VALUE}) {
                Watch.same(due, "some " + some, States::three, x -> x.together(321, some, one), Due.HIDDEN);
            }
            for (int some : new int[] {31, 47, 55, 59, 61, 62, 63}) {
                Watch.same(due, "more than four: " + some, States::six, x -> x.together(0, some, one), Due.HIDDEN);
            }
            Watch.same(due, "five of five", States::five, x -> x.together(0, 31, one), Due.HIDDEN);
            Watch.same(due, "no land", States::none, x -> x.together(0, 1, one), Due.HIDDEN);
        }
        for (int what : new int[] {Integer.MIN_VALUE, -2, -1, 2, 3, Integer.MAX_VALUE}) {
            Watch.same(due, "what " + what, States::three, x -> x.together(321, 7, what), Due.HIDDEN);
        }
        Watch.same(due, "four of six", States::six, x -> x.together(0, 15, 0), 10);
    }

    @Says(promise = 19, words = "the greatest sum of their GAINS by any bids of theirs (others as in the row); that row (the least of several)")
    static void theLeastRowOfSeveral(Due due) {
        SecondHas x = Due.of("sw10;sw10;sw10;lr1m9");
        due.is("all: 0 has it for nothing", x.together(999, 7, 0), 10);
        due.is("the least row", x.together(999, 7, 1), 0);
        due.is("one against 9 and 9", x.together(99, 1, 0), 1);
        due.is("its row", x.together(99, 1, 1), 999);
        due.is("the last against 9 and 9", x.together(990, 4, 0), 0);
        due.is("its least row, whatever it bid", x.together(997, 4, 1), 990);
        due.is("two against 9: as much is had by many", x.together(900, 6, 0), 0);
        due.is("their least row", x.together(987, 6, 1), 900);
        x.change(3, 99);
        due.is("a loss for all", x.together(999, 7, 0), -89);
        due.is("two let the third pay", x.together(100, 6, 0), 0);
        due.is("their row", x.together(199, 6, 1), 100);
        due.is("one who is first at 0 by its number", x.together(900, 1, 0), -89);
    }

    @Says(promise = 20, words = "the one of them who has most more by leaving that row alone (of several the lowest; NONE: none has more)")
    static void treasonOfSeveral(Due due) {
        SecondHas x = Due.of("sw10;sw10;sw10;lr1m9");
        due.is("1 and 2 would have as much more", x.treason(999, 7), 1);
        due.is("2 alone of them could", x.treason(0, 5), 2);
        due.is("one alone has the best already", x.treason(99, 1), Due.NONE);
        due.is("one of six", Due.of("s;s;s;s;s;s;lr1m9").treason(0, 32), Due.NONE);
        due.is("four of six", Due.of("s;s;s;s;s;s;lr1m9").treason(0, 60), 2);
        Watch.same(due, "changes nothing", States::three, y -> y.treason(321, 1), Due.NONE);
    }

    @Says(promise = 20, words = "NONE: none. HIDDEN likewise.")
    static void treasonRefused(Due due) {
        for (int row : States.NO_ROW) {
            Watch.same(due, "row " + row, States::three, x -> x.treason(row, 1), Due.HIDDEN);
        }
        for (int some : new int[] {0, -1, 8, 9, 15, 64, Integer.MIN_VALUE, Integer.MAX_VALUE}) {
            Watch.same(due, "some " + some, States::three, x -> x.treason(321, some), Due.HIDDEN);
        }
        for (int some : new int[] {31, 47, 55, 59, 61, 62, 63}) {
            Watch.same(due, "more than four: " + some, States::six, x -> x.treason(0, some), Due.HIDDEN);
        }
        Watch.same(due, "five of five", States::five, x -> x.treason(0, 31), Due.HIDDEN);
        Watch.same(due, "no land", States::none, x -> x.treason(0, 1), Due.HIDDEN);
    }
}
