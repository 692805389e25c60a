/** Promises 10 to 12 and 36 to 39, each sentence that names an edge: race, came, step, without, choice, latest, medal. */
public final class EdgeRaceTest {
    private static final int[] NEAR_BOUNDS = {Integer.MIN_VALUE, -1000000, -1, 0, 1, 2, 50, 98, 99, 100, 101, Integer.MAX_VALUE};
    private static final int[] OUT = {Integer.MIN_VALUE, -99, -1, 0, 100, 101, Integer.MAX_VALUE};

    public static void main(String[] args) throws ReflectiveOperationException {
        Sentences.run(EdgeRaceTest.class);
    }

    private static SecondHas all(SecondHas x, int rule) {
        for (int i = 0; i < x.count(0); i++) {
            x.rule(i, rule);
        }
        return x;
    }

    /** Two who go one step in each second. */
    private static SecondHas two() {
        return all(Due.of("s;s", "y:1"), 0);
    }

    private static boolean within(int number) {
        return number >= 1 && number <= 99;
    }

    /** A question for one STRIVER in a RACE. */
    private interface Asked {
        int of(SecondHas x, int track, int dusk, int striver);
    }

    private static void refused(Due due, Asked call) {
        for (int out : OUT) {
            Watch.same(due, "track " + out, States::three, x -> call.of(x, out, 9, 0), Due.HIDDEN);
            Watch.same(due, "dusk " + out, States::three, x -> call.of(x, 9, out, 0), Due.HIDDEN);
        }
        for (int nobody : States.NOBODY) {
            Watch.same(due, "striver " + nobody, States::three, x -> call.of(x, 9, 9, nobody), Due.HIDDEN);
        }
        Watch.same(due, "no land", States::none, x -> call.of(x, 9, 9, 0), Due.HIDDEN);
    }

    // ---- the bounds of all of them

    @Says(promise = 10, words = "RACE over a TRACK (1 .. 99), DUSK (1 .. 99)")
    static void raceByItsBounds(Due due) {
        SecondHas x = two();
        for (int track : NEAR_BOUNDS) {
            for (int dusk : NEAR_BOUNDS) {
                boolean sound = within(track) && within(dusk);
                boolean in = dusk >= track;
                String of = track + " " + dusk;
                due.is("has it " + of, x.race(track, dusk, 0), !sound ? Due.HIDDEN : in ? 1 : Due.NONE);
                due.is("in " + of, x.race(track, dusk, 1), !sound ? Due.HIDDEN : in ? 2 : 0);
                due.is("last " + of, x.race(track, dusk, 2), !sound ? Due.HIDDEN : Math.min(track, dusk) - 1);
            }
        }
    }

    @Says(promise = 10, words = "HIDDEN: no LAND, out of bounds, no such what.")
    static void raceRefused(Due due) {
        for (int out : OUT) {
            for (int what = 0; what < 3; what++) {
                int one = what;
                Watch.same(due, "track " + out, States::three, x -> x.race(out, 9, one), Due.HIDDEN);
                Watch.same(due, "dusk " + out, States::three, x -> x.race(9, out, one), Due.HIDDEN);
            }
        }
        for (int what : new int[] {Integer.MIN_VALUE, -2, -1, 3, 4, Integer.MAX_VALUE}) {
            Watch.same(due, "what " + what, States::three, x -> x.race(9, 9, what), Due.HIDDEN);
        }
        for (int what = 0; what < 3; what++) {
            int one = what;
            Watch.same(due, "no land", States::none, x -> x.race(9, 9, one), Due.HIDDEN);
        }
    }

    @Says(promise = 10, words = "who has it (what 0; NONE: nobody)")
    static void aRaceChangesNothing(Due due) {
        Watch.same(due, "who has it", States::three, x -> x.race(6, 9, 0), 1);
        Watch.same(due, "how many are in", States::three, x -> x.race(6, 9, 1), 3);
        Watch.same(due, "the last second", States::three, x -> x.race(6, 9, 2), 6);
        Watch.same(due, "nobody", States::three, x -> x.race(6, 2, 0), Due.NONE);
    }

    // ---- 10

    @Says(promise = 10, words = "goes as many steps as its RULE is worth (0 without one), held within 0 .. PACE")
    static void heldWithinPace(Due due) {
        for (int pace = 1; pace <= 9; pace++) {
            for (int worth = -2; worth <= 11; worth++) {
                SecondHas x = Due.of("sp" + pace + ";s", worth < 0 ? "y:0-" + -worth : "y:" + worth);
                x.rule(0, 0);
                due.is(worth + " of " + pace, x.step(99, 9, 0, 1), Math.max(0, Math.min(pace, worth)));
            }
            SecondHas far = Due.of("sp" + pace + ";sp" + pace + ";s", "y:9999*9999", "y:0-9999*9999");
            far.rule(0, 0);
            far.rule(1, 1);
            due.is("far above", far.step(99, 9, 0, 1), pace);
            due.is("far below", far.step(99, 9, 1, 1), 0);
            due.is("without a rule", far.step(99, 99, 2, 99), 0);
        }
    }

    @Says(promise = 10, words = "all by where they were as it began")
    static void allByWhereTheyWere(Due due) {
        SecondHas x = Due.of("sp9;sp9;sp9", "y:3", "y:a+1");
        x.rule(0, 1);
        x.rule(1, 0);
        x.rule(2, 1);
        due.is("nobody was ahead of the lower", x.step(20, 9, 0, 1), 1);
        due.is("nobody was ahead of the higher", x.step(20, 9, 2, 1), 1);
        due.is("one was ahead of the lower", x.step(20, 9, 0, 2), 3);
        due.is("one was ahead of the higher", x.step(20, 9, 2, 2), 3);
    }

    @Says(promise = 10, words = "d steps it has to go still")
    static void stepsToGo(Due due) {
        for (int track = 1; track <= 99; track += 7) {
            SecondHas x = Due.of("sp9;s", "y:d=" + track + "?1;y:d=1?1;y:d=" + (track - 1) + "?9");
            x.rule(0, 0);
            due.is("all at first", x.step(track, 9, 0, 1), 1);
            due.is("one less then", x.step(track, 9, 0, 2), track == 1 ? 1 : track == 2 ? 2 : Math.min(track, 10));
        }
    }

    @Says(promise = 10, words = "a how many are ahead of it (those who are in, too), b how many behind, o how many are in")
    static void thoseWhoAreInCount(Due due) {
        SecondHas x = Due.of("sp9;sp9;sp9;sp9;sp9;sp9", "y:9", "y:a", "y:o", "y:b");
        for (int i = 0; i < 4; i++) {
            x.rule(i, 0);
        }
        x.rule(4, 1);
        x.rule(5, 2);
        due.is("none was ahead", x.step(9, 5, 4, 1), 0);
        due.is("none was in", x.step(9, 5, 5, 1), 0);
        due.is("four are in and ahead", x.step(9, 5, 4, 2), 4);
        due.is("four are in", x.step(9, 5, 5, 2), 4);
        due.is("the like one is not ahead", x.step(9, 5, 4, 3), 8);
        SecondHas b = Due.of("sp9;sp9;sp9;sp9;sp9;sp9", "y:t=0?1;y:b", "y:t=9?1");
        b.rule(0, 0);
        due.is("five behind", b.step(90, 9, 0, 2), 6);
        due.is("none behind one at the start", all(Due.of("s;s;s", "y:b+1"), 0).step(90, 9, 2, 1), 1);
    }

    @Says(promise = 10, words = "l how many seconds are left (this one, too), t the second (0 first)")
    static void theSecondsOfADay(Due due) {
        for (int dusk = 1; dusk <= 99; dusk++) {
            SecondHas x = Due.of("sp9;sp9;lr1", "y:l=1?9", "y:l=" + dusk + "?9");
            x.rule(0, 0);
            x.rule(1, 1);
            due.is("1 is left in the last second", x.came(9, dusk, 0), dusk - 1);
            due.is("all are left in the first", x.came(9, dusk, 1), 0);
            SecondHas t = Due.of("sp9;sp9;lr1", "y:t=" + (dusk - 1) + "?9", "y:t=" + dusk + "?9");
            t.rule(0, 0);
            t.rule(1, 1);
            due.is("the last second is DUSK less 1", t.came(9, dusk, 0), dusk - 1);
            due.is("there is no second DUSK", t.came(9, dusk, 1), Due.NONE);
        }
    }

    @Says(promise = 10, words = "It ends when all are in, or behind second DUSK less 1;")
    static void whenItEnds(Due due) {
        SecondHas x = all(Due.of("sp3;sp2", "y:9"), 0);
        due.is("all are in", x.race(6, 99, 2), 2);
        due.is("just at dusk", x.race(6, 3, 2), 2);
        due.is("both are in at dusk", x.race(6, 3, 1), 2);
        due.is("a second too early", x.race(6, 2, 1), 1);
        due.is("the last second", x.race(6, 2, 2), 1);
        due.is("none is in", x.race(6, 1, 1), 0);
        due.is("one second", x.race(6, 1, 2), 0);
        due.is("one step", x.race(1, 1, 1), 2);
        x.rule(1, Due.NONE);
        due.is("one never comes", x.race(1, 99, 2), 98);
        due.is("one is in", x.race(1, 99, 1), 1);
    }

    @Says(promise = 10, words = "who is not in then has no place (is behind all who are; neither FIRST nor one who has it)")
    static void whoIsNotInHasNoPlace(Due due) {
        for (int ties = 0; ties <= 1; ties++) {
            for (int place = 1; place <= 6; place++) {
                SecondHas x = all(Due.of("sp1;sp5;sp4;sp2;s;s;lt" + ties + "r" + place, "y:9"), 0);
                x.rule(4, Due.NONE);
                x.rule(5, Due.NONE);
                int[] has = {1, 2, 3, 0, Due.NONE, Due.NONE};
                due.is("all who can are in", x.race(20, 20, 0), has[place - 1]);
                due.is("three are in", x.race(20, 19, 0), place == 4 ? Due.NONE : has[place - 1]);
                due.is("two are in", x.race(20, 5, 0), place > 2 ? Due.NONE : has[place - 1]);
                due.is("one is in", x.race(20, 4, 0), place > 1 ? Due.NONE : 1);
                due.is("none is in", x.race(20, 3, 0), Due.NONE);
            }
        }
    }

    @Says(promise = 10, words = "with TIES 1 the one of whom just PLACE less 1 are ahead, and with whom nobody is alike; else nobody.")
    static void likeOnesInARace(Due due) {
        SecondHas x = all(Due.of("sp5;sp5;sp2;sp1;sp1;s", "y:9"), 0);
        x.rule(5, Due.NONE);
        int[] byNumber = {0, 1, 2, 3, 4, Due.NONE};
        int[] withTies = {Due.NONE, Due.NONE, 2, Due.NONE, Due.NONE, Due.NONE};
        for (int place = 1; place <= 6; place++) {
            x.change(0, place);
            x.change(1, 0);
            due.is("the lower number is ahead", x.race(10, 10, 0), byNumber[place - 1]);
            x.change(1, 1);
            due.is("nobody may be alike", x.race(10, 10, 0), withTies[place - 1]);
        }
    }

    // ---- 11

    @Says(promise = 11, words = "HIDDEN: no such ones, out of bounds.")
    static void cameByItsBounds(Due due) {
        SecondHas x = two();
        for (int track : NEAR_BOUNDS) {
            for (int dusk : NEAR_BOUNDS) {
                boolean sound = within(track) && within(dusk);
                int want = !sound ? Due.HIDDEN : dusk >= track ? track - 1 : Due.NONE;
                due.is("came " + track + " " + dusk, x.came(track, dusk, 1), want);
            }
        }
        refused(due, SecondHas::came);
    }

    @Says(promise = 11, words = "NONE: it was not.")
    static void cameJustInTime(Due due) {
        SecondHas x = all(Due.of("sp3;sp2;s", "y:9"), 0);
        x.rule(2, Due.NONE);
        due.is("in the last second", x.came(7, 3, 0), 2);
        due.is("a second too late", x.came(7, 2, 0), Due.NONE);
        due.is("in the first second", x.came(3, 1, 0), 0);
        due.is("never", x.came(1, 99, 2), Due.NONE);
        Watch.same(due, "changes nothing", States::three, y -> y.came(6, 9, 0), 1);
    }

    // ---- 12

    @Says(promise = 12, words = "where a STRIVER was as a second (0 .. DUSK) began: steps gone (TRACK at most).")
    static void eachSecond(Due due) {
        for (int dusk : new int[] {1, 2, 9, 98, 99}) {
            SecondHas x = two();
            for (int second = -1; second <= dusk + 1; second++) {
                boolean sound = second >= 0 && second <= dusk;
                due.is("second " + second + " of " + dusk, x.step(50, dusk, 1, second), sound ? Math.min(50, second) : Due.HIDDEN);
            }
        }
        SecondHas fast = all(Due.of("sp9;sp4", "y:9"), 0);
        due.is("at the start", fast.step(5, 9, 0, 0), 0);
        due.is("not beyond the track", fast.step(5, 9, 0, 1), 5);
        due.is("who is in stays", fast.step(5, 9, 0, 9), 5);
        due.is("not beyond the track in two", fast.step(5, 9, 1, 2), 5);
    }

    @Says(promise = 12, words = "HIDDEN: no such ones, out of bounds.")
    static void stepRefused(Due due) {
        refused(due, (x, track, dusk, striver) -> x.step(track, dusk, striver, 0));
        for (int second : new int[] {Integer.MIN_VALUE, -2, -1, 10, 11, 99, Integer.MAX_VALUE}) {
            Watch.same(due, "second " + second, States::three, x -> x.step(9, 9, 0, second), Due.HIDDEN);
        }
        Watch.same(due, "second 9 of 9", States::three, x -> x.step(9, 9, 0, 9), 9);
        Watch.same(due, "second 0 of 9", States::three, x -> x.step(9, 9, 0, 0), 0);
    }

    // ---- 36

    @Says(promise = 36, words = "who has it, if that one does not run (goes no steps, is counted by letters as one who is at the start)")
    static void whoDoesNotRun(Due due) {
        SecondHas x = Due.of("sp9;sp9;sp9;lr1", "y:b", "y:9", "y:a+b");
        x.rule(0, 2);
        x.rule(1, 1);
        x.rule(2, 0);
        due.is("all run: 1 is first", x.race(30, 30, 0), 1);
        due.is("without 1 nobody goes", x.without(30, 99, 1), Due.NONE);
        due.is("without 0", x.without(30, 30, 0), 1);
        SecondHas b = Due.of("sp9;sp9;lr1", "y:t=0?1;y:b*9", "y:1");
        b.rule(0, 0);
        b.rule(1, 1);
        due.is("one behind, at the start, is counted", b.without(10, 2, 1), 0);
        due.is("as it runs it is alike", b.race(10, 2, 0), Due.NONE);
        due.is("one without a rule is no loss", all(Due.of("s;s;lr1", "y:1"), 0).without(9, 9, 1), 0);
        Watch.same(due, "changes nothing", States::three, y -> y.without(6, 9, 0), 2);
    }

    @Says(promise = 36, words = "NONE: nobody. HIDDEN: no such ones, out of bounds.")
    static void withoutRefused(Due due) {
        SecondHas x = all(Due.of("s;s;lr1", "y:1"), 0);
        for (int track : NEAR_BOUNDS) {
            for (int dusk : NEAR_BOUNDS) {
                boolean sound = within(track) && within(dusk);
                int want = !sound ? Due.HIDDEN : dusk >= track ? 1 : Due.NONE;
                due.is("without " + track + " " + dusk, x.without(track, dusk, 0), want);
            }
        }
        refused(due, SecondHas::without);
        due.is("of two one alone is no second", two().without(9, 9, 0), Due.NONE);
    }

    // ---- 37

    @Says(promise = 37, words = "the lowest RULE (all others by theirs) by which a STRIVER has it in a RACE")
    static void theLowestRule(Due due) {
        SecondHas x = Due.of("sp9;sp9;lr1", "y:1", "y:2", "y:3", "y:4");
        for (int rule = 0; rule < 4; rule++) {
            x.rule(1, rule);
            due.is("against " + rule, x.choice(60, 99, 0), rule);
            due.is("its own stays", Due.striver(x, 0, 4), Due.NONE);
        }
        x.rule(0, 3);
        due.is("the other must be ahead of the fourth", x.choice(60, 99, 1), Due.NONE);
        x.rule(0, 2);
        due.is("the fourth", x.choice(60, 99, 1), 3);
        x.rule(0, Due.NONE);
        x.rule(1, Due.NONE);
        due.is("alone", x.choice(60, 99, 1), 0);
        due.is("alone, by a short day", x.choice(60, 15, 1), 3);
        due.is("by too short a day", x.choice(60, 14, 1), Due.NONE);
    }

    @Says(promise = 37, words = "NONE: none. HIDDEN likewise.")
    static void choiceRefused(Due due) {
        SecondHas x = two();
        for (int track : NEAR_BOUNDS) {
            for (int dusk : NEAR_BOUNDS) {
                boolean sound = within(track) && within(dusk);
                int want = !sound ? Due.HIDDEN : dusk >= track ? 0 : Due.NONE;
                due.is("choice " + track + " " + dusk, x.choice(track, dusk, 1), want);
            }
        }
        refused(due, SecondHas::choice);
        Watch.same(due, "there are no rules", () -> Due.of("s;s"), y -> y.choice(9, 9, 0), Due.NONE);
        Watch.same(due, "changes nothing", States::three, y -> y.choice(6, 9, 1), 0);
    }

    // ---- 38

    @Says(promise = 38, words = "the least DUSK (1 .. 99) with which somebody has it on a TRACK")
    static void theLeastDusk(Due due) {
        SecondHas x = two();
        for (int track = 1; track <= 99; track++) {
            due.is("on " + track, x.latest(track), track);
        }
        SecondHas whole = Due.of("sp9;s;lr1", "y:l=99?9", "y:l>99?9", "y:t=98?9", "y:t=99?9");
        int[] want = {99, Due.NONE, 99, Due.NONE};
        for (int rule = 0; rule < 4; rule++) {
            whole.rule(0, rule);
            due.is("by the rule " + rule, whole.latest(9), want[rule]);
        }
        SecondHas early = Due.of("sp9;s;lr1", "y:l<3?9");
        early.rule(0, 0);
        due.is("with a short day alone", early.latest(18), 2);
        due.is("that is far too little", early.latest(19), Due.NONE);
    }

    @Says(promise = 38, words = "NONE: never. HIDDEN: no LAND, out of bounds.")
    static void latestRefused(Due due) {
        for (int out : OUT) {
            Watch.same(due, "track " + out, States::three, x -> x.latest(out), Due.HIDDEN);
        }
        Watch.same(due, "no land", States::none, x -> x.latest(9), Due.HIDDEN);
        Watch.same(due, "nobody runs", () -> Due.of("s;s"), x -> x.latest(1), Due.NONE);
        Watch.same(due, "one alone is no second", () -> oneRuns(), x -> x.latest(1), Due.NONE);
        Watch.same(due, "changes nothing", States::three, x -> x.latest(6), 3);
        SecondHas x = two();
        x.change(1, 1);
        due.is("alike for ever", x.latest(9), Due.NONE);
    }

    private static SecondHas oneRuns() {
        SecondHas x = Due.of("s;s", "y:1");
        x.rule(0, 0);
        return x;
    }

    // ---- 39

    @Says(promise = 39, words = "its place in a RACE (1 and how many are ahead; with TIES 0 of like ones the lower number is ahead), 0 if it is not in")
    static void placesInARace(Due due) {
        SecondHas x = all(Due.of("sp1;sp5;sp2;sp5;sp1;s", "y:9"), 0);
        x.rule(5, Due.NONE);
        int[] byNumber = {4, 1, 3, 2, 5, 0};
        int[] withTies = {4, 1, 3, 1, 4, 0};
        int[] early = {0, 1, 0, 2, 0, 0};
        for (int i = 0; i < 6; i++) {
            x.change(1, 0);
            due.is("the lower number is ahead", x.medal(10, 10, i), byNumber[i]);
            due.is("at an early dusk", x.medal(10, 2, i), early[i]);
            due.is("nobody is in", x.medal(10, 1, i), 0);
            x.change(1, 1);
            due.is("alike", x.medal(10, 10, i), withTies[i]);
        }
        due.is("PLACE has nothing to do with it", x.change(0, 6), true);
        due.is("the first", x.medal(10, 10, 1), 1);
    }

    @Says(promise = 39, words = "HIDDEN: no such ones, out of bounds.")
    static void medalRefused(Due due) {
        SecondHas x = two();
        for (int track : NEAR_BOUNDS) {
            for (int dusk : NEAR_BOUNDS) {
                boolean sound = within(track) && within(dusk);
                due.is("medal " + track + " " + dusk, x.medal(track, dusk, 1), !sound ? Due.HIDDEN : dusk >= track ? 2 : 0);
            }
        }
        refused(due, SecondHas::medal);
        Watch.same(due, "changes nothing", States::three, y -> y.medal(6, 9, 1), 2);
    }
}
