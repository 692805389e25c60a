/** Promises 6 to 9, each sentence that names an edge: striver, law, change, rule; and what a RULE is worth. */
public final class EdgeLandTest {
    private static final int[] WILD = {Integer.MIN_VALUE, Integer.MIN_VALUE + 1, -1000000, -7, -2, Integer.MAX_VALUE,
        Integer.MAX_VALUE - 1, 1000000, 256, 64};
    private static final int[] LOWS = {1, 0, 0, 0, 0};
    private static final int[] HIGHS = {6, 1, 2, 99, 9};

    public static void main(String[] args) throws ReflectiveOperationException {
        Sentences.run(EdgeLandTest.class);
    }

    // ---- 6

    @Says(promise = 6, words = "p PACE (1 .. 9; 3 without), w WORTH of the prize to it (0 .. 99; 10), k KIND (0 .. 4; 0), b the BID it tells (0 .. 9; 0)")
    static void eachNumberIsTold(Due due) {
        String letters = "pwkb";
        int[] lows = {1, 0, 0, 0};
        int[] highs = {9, 99, 4, 9};
        int[] without = {3, 10, 0, 0};
        for (int what = 0; what < 4; what++) {
            for (int value = lows[what]; value <= highs[what]; value++) {
                SecondHas x = Due.of("s;s" + letters.charAt(what) + value + ";s" + letters.charAt(what)
                        + (value < 10 ? "0" : "") + value);
                for (int other = 0; other < 4; other++) {
                    due.is("of one without", Due.striver(x, 0, other), without[other]);
                    due.is("told", Due.striver(x, 1, other), other == what ? value : without[other]);
                    due.is("told by two digits", Due.striver(x, 2, other), other == what ? value : without[other]);
                }
            }
        }
    }

    @Says(promise = 6, words = "3 the BID it tells (as told)")
    static void theBidAsTold(Due due) {
        for (int most = 0; most <= 9; most++) {
            SecondHas x = Due.of("sb9;sb1;lm" + most);
            due.is("above MOST, too", Due.striver(x, 0, 3), 9);
            x.change(4, 0);
            due.is("above MOST as changed, too", Due.striver(x, 0, 3), 9);
            due.is("above MOST as changed, too", Due.striver(x, 1, 3), 1);
        }
    }

    @Says(promise = 6, words = "4 its RULE (NONE).")
    static void itsRule(Due due) {
        SecondHas x = States.three();
        due.is("the first rule", Due.striver(x, 0, 4), 0);
        due.is("the last rule", Due.striver(x, 2, 4), 2);
        x.rule(0, Due.NONE);
        due.is("none", Due.striver(x, 0, 4), Due.NONE);
        SecondHas four = States.fourRules();
        due.is("the fourth", Due.striver(four, 0, 4), 3);
        due.is("none at first", Due.striver(four, 1, 4), Due.NONE);
    }

    @Says(promise = 6, words = "NoSuchElementException: no such ones.")
    static void noSuchStriver(Due due) {
        for (int many = 2; many <= 6; many++) {
            String land = "s;".repeat(many - 1) + "s";
            for (int what = 0; what < 5; what++) {
                int one = what;
                int above = many;
                due.is("the last one", Due.striver(Due.of(land), many - 1, what) != Long.MIN_VALUE, true);
                Watch.same(due, "one above", () -> Due.of(land), x -> Due.striver(x, above, one), Long.MIN_VALUE);
                Watch.same(due, "one below", () -> Due.of(land), x -> Due.striver(x, -1, one), Long.MIN_VALUE);
            }
        }
        for (int wild : WILD) {
            Watch.same(due, "striver " + wild, States::three, x -> Due.striver(x, wild, 0), Long.MIN_VALUE);
            Watch.same(due, "striver " + wild, States::none, x -> Due.striver(x, wild, 4), Long.MIN_VALUE);
        }
    }

    @Says(promise = 6, words = "NoSuchElementException: no such ones.")
    static void noSuchWhatOfAStriver(Due due) {
        for (int what : new int[] {-1, 5, 6}) {
            Watch.same(due, "what " + what, States::three, x -> Due.striver(x, 0, what), Long.MIN_VALUE);
        }
        for (int wild : WILD) {
            Watch.same(due, "what " + wild, States::three, x -> Due.striver(x, 0, wild), Long.MIN_VALUE);
        }
        Watch.same(due, "a new one", SecondHas::new, x -> Due.striver(x, 0, 0), Long.MIN_VALUE);
    }

    // ---- 7

    @Says(promise = 7, words = "r PLACE that has the prize (1 .. 6; 2), t TIES (0, 1; 0), q what is PAID (0 .. 2; 0), f FEE (0 .. 99; 0), m MOST that may be bid (0 .. 9; 5)")
    static void eachNumberOfTheLaw(Due due) {
        String letters = "rtqfm";
        int[] without = {2, 0, 0, 0, 5};
        for (int what = 0; what < 5; what++) {
            for (int value = LOWS[what]; value <= HIGHS[what]; value++) {
                SecondHas x = Due.of("s;l" + letters.charAt(what) + value + ";s");
                for (int other = 0; other < 5; other++) {
                    due.is("law " + other, x.law(other), other == what ? value : without[other]);
                }
            }
        }
        SecondHas bare = Due.of("s;l;s");
        SecondHas lawless = Due.of("s;s");
        for (int what = 0; what < 5; what++) {
            due.is("a bare l", bare.law(what), without[what]);
            due.is("no l", lawless.law(what), without[what]);
        }
    }

    @Says(promise = 7, words = "NONE: no LAND, no such what.")
    static void noSuchWhatOfTheLaw(Due due) {
        for (int what : new int[] {-1, 5, 6}) {
            Watch.same(due, "law " + what, States::three, x -> x.law(what), Due.NONE);
        }
        for (int wild : WILD) {
            Watch.same(due, "law " + wild, States::three, x -> x.law(wild), Due.NONE);
        }
    }

    @Says(promise = 7, words = "NONE: no LAND, no such what.")
    static void noLandHasNoLaw(Due due) {
        for (int what = -1; what <= 5; what++) {
            int one = what;
            Watch.same(due, "law " + what, States::none, x -> x.law(one), Due.NONE);
            Watch.same(due, "law " + what, SecondHas::new, x -> x.law(one), Due.NONE);
        }
    }

    // ---- 8

    @Says(promise = 8, words = "The LAW is changed")
    static void eachChangeOfTheLaw(Due due) {
        for (int what = 0; what < 5; what++) {
            for (int v = -2; v <= 101; v++) {
                boolean sound = v >= LOWS[what] && v <= HIGHS[what];
                SecondHas x = Due.of("s;s;lr3t1q1f50m7");
                int[] law = {3, 1, 1, 50, 7};
                due.is("change " + what + " " + v, x.change(what, v), sound);
                for (int other = 0; other < 5; other++) {
                    due.is("law " + other, x.law(other), other == what && sound ? v : law[other]);
                }
            }
        }
    }

    @Says(promise = 8, words = "(bids told above MOST are taken as MOST as long as it is so)")
    static void bidsAboveMost(Due due) {
        for (int told = 0; told <= 9; told++) {
            SecondHas x = Due.of("sb" + told + ";s;lm9");
            for (int most = 0; most <= 9; most++) {
                x.change(4, most);
                due.is(told + " with " + most, x.rounds(1), 10 * Math.min(told, most));
                due.is("as told in the text", Due.of("sb" + told + ";s;lm" + most).rounds(1), 10 * Math.min(told, most));
            }
            due.is(told + " again", x.rounds(1), 10 * told);
        }
    }

    @Says(promise = 8, words = "False: no LAND, out of bounds.")
    static void outOfBounds(Due due) {
        for (int what = 0; what < 5; what++) {
            int one = what;
            Watch.same(due, "below", States::three, x -> Watch.of(x.change(one, LOWS[one] - 1)), 0);
            Watch.same(due, "above", States::three, x -> Watch.of(x.change(one, HIGHS[one] + 1)), 0);
            for (int wild : WILD) {
                boolean fee = one == 3 && wild == 64;
                if (!fee) {
                    Watch.same(due, one + " " + wild, States::three, x -> Watch.of(x.change(one, wild)), 0);
                }
            }
        }
    }

    @Says(promise = 8, words = "False: no LAND, out of bounds.")
    static void noSuchWhatToChange(Due due) {
        for (int what : new int[] {-1, 5, 6}) {
            Watch.same(due, "what " + what, States::three, x -> Watch.of(x.change(what, 1)), 0);
        }
        for (int wild : WILD) {
            Watch.same(due, "what " + wild, States::three, x -> Watch.of(x.change(wild, 1)), 0);
        }
    }

    @Says(promise = 8, words = "False: no LAND, out of bounds.")
    static void noLandToChange(Due due) {
        for (int what = 0; what < 5; what++) {
            int one = what;
            Watch.same(due, "change " + what, States::none, x -> Watch.of(x.change(one, 1)), 0);
        }
        SecondHas x = States.none();
        x.change(3, 9);
        x.text(0);
        due.is("the land that comes has its own", x.law(3), 0);
    }

    // ---- 9

    @Says(promise = 9, words = "A RULE of a STRIVER (NONE: none).")
    static void eachRuleOfEachStriver(Due due) {
        for (int striver = -2; striver <= 7; striver++) {
            for (int rule = -3; rule <= 5; rule++) {
                SecondHas x = Due.of("s;s;s", "y:1", "y:2");
                boolean sound = striver >= 0 && striver < 3 && rule >= -1 && rule < 2;
                due.is("rule " + striver + " " + rule, x.rule(striver, rule), sound);
                for (int i = 0; i < 3; i++) {
                    due.is("of " + i, Due.striver(x, i, 4), sound && i == striver ? rule : Due.NONE);
                }
            }
        }
    }

    @Says(promise = 9, words = "False: no such ones.")
    static void noSuchRule(Due due) {
        for (int rule : new int[] {-3, -2, 3, 4, Integer.MIN_VALUE, Integer.MAX_VALUE}) {
            Watch.same(due, "rule " + rule, States::three, x -> Watch.of(x.rule(0, rule)), 0);
        }
        Watch.same(due, "a fifth", States::fourRules, x -> Watch.of(x.rule(0, 4)), 0);
        Watch.same(due, "there is none", () -> Due.of("s;s"), x -> Watch.of(x.rule(0, 0)), 0);
        Watch.same(due, "none of none", () -> Due.of("s;s"), x -> Watch.of(x.rule(1, Due.NONE)), 1);
    }

    @Says(promise = 9, words = "False: no such ones.")
    static void noSuchStriverForARule(Due due) {
        for (int striver : new int[] {-1, -2, 3, 4, 6, Integer.MIN_VALUE, Integer.MAX_VALUE}) {
            Watch.same(due, "striver " + striver, States::three, x -> Watch.of(x.rule(striver, 1)), 0);
            Watch.same(due, "striver " + striver, States::three, x -> Watch.of(x.rule(striver, Due.NONE)), 0);
        }
        Watch.same(due, "no land", States::none, x -> Watch.of(x.rule(0, 0)), 0);
    }

    // ---- what a RULE is worth

    /** The first striver runs by the rule over a track of 99 till a dusk of 7: its steps in the first second. */
    private static int worth(String rule) {
        SecondHas x = Due.of("sp9;s", rule);
        due(x.rule(0, 0));
        return x.step(99, 7, 0, 1);
    }

    private static void due(boolean given) {
        if (!given) {
            throw new IllegalStateException("no such rule");
        }
    }

    private static void alike(Due due, String left, String right) {
        due.is(left + " = " + right, worth("y:" + left + "=" + right + "?1"), 1);
        due.is(left + " < " + right, worth("y:" + left + "<" + right + "?1"), 0);
        due.is(left + " > " + right, worth("y:" + left + ">" + right + "?1"), 0);
    }

    @Says(promise = 9, words = "Behind each sign numbers are within -1,000,000 .. 1,000,000;")
    static void numbersAreHeldAtTheirGreatest(Due due) {
        alike(due, "9999*100+100", "1000*1000");
        alike(due, "9999*100+99+1", "1000*1000");
        alike(due, "9999*100+101", "1000*1000");
        alike(due, "9999*100+101-1", "9999*100+99");
        alike(due, "9999*9999", "1000*1000");
        alike(due, "9999*9999*9999*9999", "1000*1000");
        alike(due, "9999*9999/9999", "100");
        alike(due, "1000*1000+9999-9999", "9999*100-9899");
        alike(due, "1000*1000-[0-1]", "1000*1000");
        alike(due, "[0-1000]*[0-1001]", "1000*1000");
        alike(due, "1000*1000/1", "1000*1000");
        due.is("just below", worth("y:1000*1000-1<1000*1000?1"), 1);
    }

    @Says(promise = 9, words = "Behind each sign numbers are within -1,000,000 .. 1,000,000;")
    static void numbersAreHeldAtTheirLeast(Due due) {
        alike(due, "0-9999*100-100", "0-1000*1000");
        alike(due, "0-9999*100-101", "0-1000*1000");
        alike(due, "0-9999*100-101+1", "0-9999*100-99");
        alike(due, "[0-9999]*9999", "0-1000*1000");
        alike(due, "9999*[0-9999]/9999", "0-100");
        alike(due, "0-1000*1000-9999+9999", "9899-9999*100");
        alike(due, "0-1000*1000+[0-1]", "0-1000*1000");
        alike(due, "[0-1000*1000]*[0-1]", "1000*1000");
        alike(due, "[0-1000*1000]/[0-1]", "1000*1000");
        due.is("just above", worth("y:1-1000*1000>0-1000*1000?1"), 1);
    }

    @Says(promise = 9, words = "/ cuts towards 0, by 0 gives 0.")
    static void cutsTowardsNothing(Due due) {
        alike(due, "7/2", "3");
        alike(due, "[0-7]/2", "0-3");
        alike(due, "7/[0-2]", "0-3");
        alike(due, "[0-7]/[0-2]", "3");
        alike(due, "1/2", "0");
        alike(due, "[0-1]/2", "0");
        alike(due, "9999/9999", "1");
        alike(due, "9998/9999", "0");
    }

    @Says(promise = 9, words = "/ cuts towards 0, by 0 gives 0.")
    static void byNothingGivesNothing(Due due) {
        alike(due, "0/0", "0");
        alike(due, "9999/0", "0");
        alike(due, "[0-9999]/0", "0");
        alike(due, "5/[3-3]", "0");
        alike(due, "5/0/0", "0");
        alike(due, "5/0+4", "4");
        alike(due, "4-5/t", "4");
        due.is("a rule that divides by 0", worth("y:9/0"), 0);
        due.is("and goes on", worth("y:9/t+2"), 2);
    }

    @Says(promise = 9, words = "the SUM of the first CLAUSE whose CONDITION holds (or has none), 0 without.")
    static void theFirstClauseThatHolds(Due due) {
        due.is("the first", worth("y:1=1?1;y:1=1?2;y:3"), 1);
        due.is("the second", worth("y:1=2?1;y:1=1?2;y:3"), 2);
        due.is("the one that has none", worth("y:1=2?1;y:1=2?2;y:3;y:4"), 3);
        due.is("what stands behind one that has none", worth("y:3;y:1=1?4"), 3);
        due.is("none holds", worth("y:1=2?1;y:2=1?2"), 0);
        due.is("the last of 17", worth("y:1=2?1;".repeat(16) + "y:5"), 5);
        due.is("none of 17", worth("y:1=2?1;".repeat(16) + "y:1=0?5"), 0);
    }

    @Says(promise = 9, words = "CONDITION: TRUTHS with | between; TRUTH: UNITS with & between;")
    static void allTruthsOfFour(Due due) {
        for (int bits = 0; bits < 16 * 8; bits++) {
            boolean[] is = new boolean[4];
            StringBuilder text = new StringBuilder("y:");
            for (int i = 0; i < 4; i++) {
                is[i] = (bits >> i & 1) != 0;
                text.append((is[i] ? new String[] {"1<2", "1=1", "2>1", "!1=2"} : new String[] {"1<1", "1=2", "!2>1", "!1<2"})[i]);
                text.append(i == 3 ? "?1" : (bits >> 4 + i & 1) != 0 ? "&" : "|");
            }
            boolean holds = false;
            boolean truth = is[0];
            for (int i = 0; i < 3; i++) {
                boolean and = (bits >> 4 + i & 1) != 0;
                holds |= !and && truth;
                truth = and ? truth && is[i + 1] : is[i + 1];
            }
            due.is(text.toString(), worth(text.toString()), holds || truth ? 1 : 0);
        }
    }

    @Says(promise = 9, words = "UNIT: ! UNIT, ( CONDITION ), or SUM, one of = < >, SUM.")
    static void sixDeepTheyHold(Due due) {
        due.is("six !", worth("y:!!!!!!1=1?4"), 4);
        due.is("six ! of what is not", worth("y:!!!!!!1=2?4"), 0);
        due.is("five !", worth("y:!!!!!1=2?4"), 4);
        due.is("six (", worth("y:((((((1=1))))))?4"), 4);
        due.is("three !(", worth("y:!(!(!(1=1)))?4"), 0);
        due.is("six [", worth("y:1+[1+[1+[1+[1+[1+[1]]]]]]"), 7);
        due.is("six [ from the other side", worth("y:[[[[[[9-1]-1]-1]-1]-1]-1]-1"), 2);
        due.is("all that can be open at once", worth("y:1=2|1=1&(1=2|1=1&(1=2|1=1&(1=2|1=1&(1=2|1=1&(1=2|1=1&1+2*1=3)))))?4"), 4);
        due.is("with sums within", worth("y:1=2|1=1&(1=2|1=1&(1=2|1=1&9=2+7*[0+1*[0+1*[1+0*1]]]))?4"), 4);
    }
}
