import java.util.ArrayList;
import java.util.List;

/** Promises 13 to 20 and 31 to 35, the plain sentences: every row of many LANDS, held against the words. */
public final class PlainBidsTest {
    private static final List<Gains> LANDS = Gains.some();

    public static void main(String[] args) throws ReflectiveOperationException {
        Sentences.run(PlainBidsTest.class);
    }

    private static String of(Gains land, int number) {
        return land.land() + " " + land.row(number);
    }

    // ---- 13: by the bids alone

    private static boolean isAhead(Gains land, int number, int one, int of) {
        int more = land.bid(number, one) - land.bid(number, of);
        return more > 0 || (more == 0 && land.law[Gains.TIES] == 0 && one < of);
    }

    private static int ahead(Gains land, int number, int of) {
        int ahead = 0;
        for (int one = 0; one < land.n(); one++) {
            ahead += isAhead(land, number, one, of) ? 1 : 0;
        }
        return ahead;
    }

    private static boolean isAlone(Gains land, int number, int of) {
        for (int one = 0; one < land.n(); one++) {
            if (one != of && land.bid(number, one) == land.bid(number, of)) {
                return false;
            }
        }
        return true;
    }

    private static int whoHasIt(Gains land, int number) {
        int who = Due.NONE;
        for (int i = 0; i < land.n(); i++) {
            boolean alone = land.law[Gains.TIES] == 0 || isAlone(land, number, i);
            if (alone && ahead(land, number, i) == land.law[Gains.PLACE] - 1) {
                who = i;
            }
        }
        return who;
    }

    @Says(promise = 13, words = "An ORDER of STRIVERS (by times, or by bids) is told by SCORES: who is ahead of whom, and who are alike. "
            + "With TIES 0 of like ones the lower number is ahead. Who has the prize: with TIES 0 the one of whom just PLACE less 1 are ahead;")
    static void whoHasItByBids(Due due) {
        for (Gains land : LANDS) {
            for (int number = 0; number < land.rows(); number++) {
                due.is(of(land, number), land.x().bids(land.row(number), 0), whoHasIt(land, number));
            }
        }
    }

    /** The order for what is paid: more first, and of like ones the lower number. */
    private static List<Integer> inOrder(Gains land, int number) {
        List<Integer> order = new ArrayList<>();
        for (int i = 0; i < land.n(); i++) {
            order.add(i);
        }
        order.sort((one, other) -> land.bid(number, other) - land.bid(number, one));
        return order;
    }

    private static int paid(Gains land, int number) {
        int who = whoHasIt(land, number);
        if (who == Due.NONE) {
            return 0;
        }
        List<Integer> order = inOrder(land, number);
        int at = order.indexOf(who);
        switch (land.law[Gains.PAID]) {
            case 0:
                return land.bid(number, who);
            case 1:
                return land.bid(number, at == 0 ? who : order.get(at - 1));
            default:
                return at == land.n() - 1 ? 0 : land.bid(number, order.get(at + 1));
        }
    }

    @Says(promise = 13, words = "; more is ahead. PAID by who has it: 0 its own bid, 1 the bid of the one next ahead of it in the order "
            + "(its own, if there is none), 2 that of the one next behind (0, if there is none).")
    static void whatIsPaid(Due due) {
        for (Gains land : LANDS) {
            for (int number = 0; number < land.rows(); number++) {
                due.is(of(land, number), land.x().bids(land.row(number), 1), paid(land, number));
            }
        }
    }

    @Says(promise = 13, words = ", FIRST ones, as bits (2), all that is PAID with FEES (3).")
    static void firstsAndAllThatIsPaid(Due due) {
        for (Gains land : LANDS) {
            for (int number = 0; number < land.rows(); number++) {
                int bits = 0;
                int all = paid(land, number);
                for (int i = 0; i < land.n(); i++) {
                    boolean first = ahead(land, number, i) == 0;
                    bits += first ? 1 << i : 0;
                    all += first ? land.law[Gains.FEE] : 0;
                }
                due.is("bits " + of(land, number), land.x().bids(land.row(number), 2), bits);
                due.is("all " + of(land, number), land.x().bids(land.row(number), 3), all);
            }
        }
    }

    // ---- 14: by bids

    @Says(promise = 14, words = "GAIN by BIDS.")
    static void gainByBids(Due due) {
        for (Gains land : LANDS) {
            for (int number = 0; number < land.rows(); number++) {
                int row = land.row(number);
                int firsts = land.x().bids(row, 2);
                for (int i = 0; i < land.n(); i++) {
                    int gain = land.x().bids(row, 0) == i ? land.worth[i] - land.x().bids(row, 1) : 0;
                    gain -= (firsts >> i & 1) * land.law[Gains.FEE];
                    due.is(of(land, number) + " of " + i, land.x().gain(row, i), gain);
                }
            }
        }
    }

    // ---- 15 to 20: by gains

    private static List<Integer> rests(Gains land) {
        List<Integer> rests = new ArrayList<>();
        for (int number = 0; number < land.rows(); number++) {
            boolean rest = true;
            for (int i = 0; i < land.n(); i++) {
                rest &= land.mostMore(number, i) == 0;
            }
            if (rest) {
                rests.add(land.row(number));
            }
        }
        return rests;
    }

    @Says(promise = 15, words = "rows by which no STRIVER has a greater GAIN by another bid alone: how many, the i-th (rising).")
    static void allRests(Due due) {
        for (Gains land : LANDS) {
            List<Integer> rests = rests(land);
            due.is("rests of " + land.land(), land.x().rests(Due.NONE), rests.size());
            for (int i = 0; i < rests.size(); i++) {
                due.is("rest " + i + " of " + land.land(), land.x().rests(i), rests.get(i));
            }
            due.is("behind the last of " + land.land(), land.x().rests(rests.size()), Due.NONE);
        }
    }

    @Says(promise = 15, words = "HIDDEN: no LAND, more than four.")
    static void restsOfMoreThanFour(Due due) {
        for (int i : new int[] {Due.NONE, 0, 1, 9999}) {
            Watch.same(due, "no land " + i, States::none, x -> x.rests(i), Due.HIDDEN);
            Watch.same(due, "five " + i, States::five, x -> x.rests(i), Due.HIDDEN);
            Watch.same(due, "six " + i, States::six, x -> x.rests(i), Due.HIDDEN);
        }
        due.is("four", Due.of("s;s;s;s;lm0").rests(Due.NONE), 1);
    }

    @Says(promise = 16, words = "SELLER: the least (0), the greatest (1).")
    static void sellerOverAllRests(Due due) {
        for (Gains land : LANDS) {
            int least = Integer.MAX_VALUE;
            int greatest = Integer.MIN_VALUE;
            for (int row : rests(land)) {
                int gets = land.x().bids(row, 3);
                least = Math.min(least, gets);
                greatest = Math.max(greatest, gets);
            }
            due.is("least of " + land.land(), land.x().seller(0), least);
            due.is("greatest of " + land.land(), land.x().seller(1), greatest);
        }
    }

    /** Who of some has most more by another bid alone (the lowest of several), or NONE. */
    private static int whoHasMostMore(Gains land, int number, int some) {
        int who = Due.NONE;
        for (int i = land.n() - 1; i >= 0; i--) {
            boolean one = (some >> i & 1) == 1 && land.mostMore(number, i) > 0;
            if (one && (who == Due.NONE || land.mostMore(number, i) >= land.mostMore(number, who))) {
                who = i;
            }
        }
        return who;
    }

    @Says(promise = 17, words = "CURE: the STRIVER (0; NONE: none), its bid (1; NONE), how much more (2; 0).")
    static void curesOfAllRows(Due due) {
        for (Gains land : LANDS) {
            for (int number = 0; number < land.rows(); number++) {
                int who = whoHasMostMore(land, number, (1 << land.n()) - 1);
                int more = who == Due.NONE ? 0 : land.mostMore(number, who);
                int bid = who == Due.NONE ? Due.NONE : 0;
                while (who != Due.NONE && land.more(number, who, bid) < more) {
                    bid++;
                }
                int row = land.row(number);
                due.is("who " + of(land, number), land.x().cure(row, 0), who);
                due.is("bid " + of(land, number), land.x().cure(row, 1), bid);
                due.is("more " + of(land, number), land.x().cure(row, 2), more);
            }
        }
    }

    @Says(promise = 18, words = "FIRM (1, 0).")
    static void firmOrNot(Due due) {
        SecondHas x = Due.of("sw5;sw5;lm1");
        due.is("0 has it and pays nothing", x.firm(1, 1), 1);
        due.is("1 would have it with 0", x.firm(1, 2), 0);
        due.is("both: one of them has more", x.firm(1, 3), 0);
        due.is("nobody has more", x.firm(0, 3), 1);
    }

    @Says(promise = 18, words = "PACT of some STRIVERS (bits, not 0), all others as in a row: FIRM, if none of them has more by another bid alone.")
    static void pactsThatAreFirm(Due due) {
        for (Gains land : LANDS) {
            for (int number = 0; number < land.rows(); number++) {
                for (int some = 1; some < 1 << land.n(); some++) {
                    boolean firm = whoHasMostMore(land, number, some) == Due.NONE;
                    due.is(some + " in " + of(land, number), land.x().firm(land.row(number), some), firm ? 1 : 0);
                }
            }
        }
    }

    /** The lowest row with the greatest sum for some, the others' bids as they are. */
    private static int bestFor(Gains land, int number, int some) {
        int best = Due.NONE;
        for (int other = 0; other < land.rows(); other++) {
            boolean asInTheRow = true;
            for (int i = 0; i < land.n(); i++) {
                asInTheRow &= (some >> i & 1) == 1 || land.bid(other, i) == land.bid(number, i);
            }
            if (asInTheRow && (best == Due.NONE || land.sum(other, some) > land.sum(best, some))) {
                best = other;
            }
        }
        return best;
    }

    @Says(promise = 19, words = "TOGETHER: the sum (0), the row (1).")
    static void whatSomeCouldHave(Due due) {
        for (Gains land : LANDS) {
            for (int number = 0; number < land.rows(); number += 1 + land.n() / 3) {
                for (int some = 1; some < 1 << land.n(); some++) {
                    int best = bestFor(land, number, some);
                    String told = some + " in " + of(land, number);
                    due.is("sum " + told, land.x().together(land.row(number), some, 0), land.sum(best, some));
                    due.is("row " + told, land.x().together(land.row(number), some, 1), land.row(best));
                }
            }
        }
    }

    @Says(promise = 20, words = "TREASON: the one of them who has most more by leaving that row alone (of several the lowest; NONE: none has more).")
    static void whoLeavesThatRow(Due due) {
        for (Gains land : LANDS) {
            for (int number = 0; number < land.rows(); number += 1 + land.n() / 3) {
                for (int some = 1; some < 1 << land.n(); some++) {
                    int who = whoHasMostMore(land, bestFor(land, number, some), some);
                    due.is(some + " in " + of(land, number), land.x().treason(land.row(number), some), who);
                }
            }
        }
    }

    // ---- 31 to 35: by who has it and gains

    private static int[] hope(Gains land, int striver, int bid) {
        int[] hope = {0, 0};
        for (int number = 0; number < land.rows(); number++) {
            if (land.bid(number, striver) == bid) {
                hope[0] += land.has(number) == striver ? 1 : 0;
                hope[1] += land.gain(number, striver);
            }
        }
        return hope;
    }

    @Says(promise = 31, words = "HOPE: in how many rows (what 0), GAINS (1).")
    static void hopes(Due due) {
        for (Gains land : LANDS) {
            for (int i = 0; i < land.n(); i++) {
                for (int bid = 0; bid <= land.law[Gains.MOST]; bid++) {
                    int[] hope = hope(land, i, bid);
                    String told = i + " with " + bid + " in " + land.land();
                    due.is("rows of " + told, land.x().hope(i, bid, 0), hope[0]);
                    due.is("gains of " + told, land.x().hope(i, bid, 1), hope[1]);
                }
            }
        }
    }

    @Says(promise = 32, words = "BOLD: the bid with the greatest of these sums (of several the lowest).")
    static void bolds(Due due) {
        for (Gains land : LANDS) {
            for (int i = 0; i < land.n(); i++) {
                int bold = 0;
                for (int bid = 1; bid <= land.law[Gains.MOST]; bid++) {
                    bold = hope(land, i, bid)[1] > hope(land, i, bold)[1] ? bid : bold;
                }
                due.is(i + " in " + land.land(), land.x().bold(i), bold);
            }
        }
    }

    @Says(promise = 33, words = "VOID: rows of bids of all in which nobody has it.")
    static void rowsInWhichNobodyHasIt(Due due) {
        for (Gains land : LANDS) {
            int found = 0;
            for (int number = 0; number < land.rows(); number++) {
                found += land.has(number) == Due.NONE ? 1 : 0;
            }
            due.is(land.land(), land.x().voids(), found);
        }
    }

    private static int near(Gains land, int number, int striver) {
        int own = land.bid(number, striver);
        for (int far = 0; far <= land.law[Gains.MOST]; far++) {
            for (int bid = own - far; bid <= own + far; bid += Math.max(1, 2 * far)) {
                boolean sound = bid >= 0 && bid <= land.law[Gains.MOST];
                if (sound && land.has(land.with(number, striver, bid)) == striver) {
                    return bid;
                }
            }
        }
        return Due.NONE;
    }

    @Says(promise = 34, words = "NEAR of a row: the bid of a STRIVER nearest to its own by which, others as in the row, it has it (of two the lower).")
    static void nearestBids(Due due) {
        for (Gains land : LANDS) {
            for (int number = 0; number < land.rows(); number++) {
                for (int i = 0; i < land.n(); i++) {
                    due.is(i + " in " + of(land, number), land.x().near(land.row(number), i), near(land, number, i));
                }
            }
        }
    }

    @Says(promise = 35, words = "CHANGES of a row: how many STRIVERS could have it by another bid alone (who has it not).")
    static void howManyCouldHaveIt(Due due) {
        for (Gains land : LANDS) {
            for (int number = 0; number < land.rows(); number++) {
                int could = 0;
                for (int i = 0; i < land.n(); i++) {
                    could += land.has(number) != i && near(land, number, i) != Due.NONE ? 1 : 0;
                }
                due.is(of(land, number), land.x().changes(land.row(number)), could);
            }
        }
    }
}
