/** Promises 10 to 12 and 36 to 39: race, came, step, without, choice, latest, medal. */
public final class RaceTest {
    public static void main(String[] args) {
        Due due = new Due();
        paces(due);
        ties(due);
        letters(due);
        without(due);
        choice(due);
        latest(due);
        changedRules(due);
        refused(due);
        due.end("RaceTest");
    }

    private static SecondHas all(SecondHas x, int rule) {
        for (int i = 0; i < x.count(0); i++) {
            x.rule(i, rule);
        }
        return x;
    }

    private static void paces(Due due) {
        SecondHas x = all(Due.of("sp2;sp5;sp9;sp1", "y:d"), 0);
        due.is("who has it", x.race(10, 20, 0), 2);
        due.is("in", x.race(10, 20, 1), 4);
        due.is("the last second", x.race(10, 20, 2), 9);
        int[] came = {4, 1, 1, 9};
        int[] place = {3, 1, 2, 4};
        x.change(0, 1);
        due.is("the first place has it", x.race(10, 20, 0), 1);
        x.change(0, 2);
        due.is("of like ones the lower is ahead", x.race(10, 20, 0), 2);
        for (int i = 0; i < 4; i++) {
            due.is("came " + i, x.came(10, 20, i), came[i]);
            due.is("medal " + i, x.medal(10, 20, i), place[i]);
        }
        x.change(0, 4);
        due.is("the fourth place", x.race(10, 20, 0), 3);
        due.is("the fourth is in with the last second", x.race(10, 10, 0), 3);
        due.is("the fourth is not in at dusk", x.race(10, 9, 0), Due.NONE);
        due.is("in at dusk", x.race(10, 9, 1), 3);
        due.is("the last second at dusk", x.race(10, 9, 2), 8);
        due.is("no place", x.medal(10, 9, 3), 0);
        due.is("not in", x.came(10, 9, 3), Due.NONE);
        x.change(0, 5);
        due.is("more than there are", x.race(10, 20, 0), Due.NONE);
        int[] gone = {0, 2, 4, 6, 8, 10, 10};
        for (int second = 0; second < gone.length; second++) {
            due.is("step " + second, x.step(10, 6, 0, second), gone[second]);
        }
        due.is("not farther than the track", x.step(10, 6, 2, 2), 10);
        due.is("not farther than the track", x.step(10, 6, 2, 1), 9);
        due.is("one second, one step", all(Due.of("s;s", "y:1"), 0).race(1, 1, 2), 0);
    }

    private static void ties(Due due) {
        SecondHas x = all(Due.of("sp5;sp2;sp5;sp1;lr3t1", "y:9"), 0);
        due.is("two are ahead and nobody alike", x.race(10, 20, 0), 1);
        due.is("the place of like ones", x.medal(10, 20, 0), 1);
        due.is("the place of like ones", x.medal(10, 20, 2), 1);
        due.is("the place behind them", x.medal(10, 20, 1), 3);
        x.change(0, 1);
        due.is("alike ahead", x.race(10, 20, 0), Due.NONE);
        x.change(0, 2);
        due.is("nobody has just one ahead", x.race(10, 20, 0), Due.NONE);
        x.change(1, 0);
        due.is("with ties 0", x.race(10, 20, 0), 2);
        due.is("with ties 0 the place", x.medal(10, 20, 2), 2);
        SecondHas dusk = all(Due.of("sp5;sp1;sp1;lr1t1", "y:9"), 0);
        due.is("who is not in is alike with nobody who is", dusk.race(10, 3, 0), 0);
        dusk.change(0, 2);
        due.is("who is not in has it not", dusk.race(10, 3, 0), Due.NONE);
        dusk.change(1, 0);
        due.is("who is not in has it not", dusk.race(10, 3, 0), Due.NONE);
    }

    private static void letters(Due due) {
        SecondHas x = Due.of("sp9;sp9;sp9", "y:t=0?3;y:a", "y:t=0?2;y:a*2+b", "y:t=0?2;y:l-t");
        x.rule(0, 0);
        x.rule(1, 1);
        x.rule(2, 2);
        due.is("nobody ahead: stays", x.step(50, 8, 0, 2), 3);
        due.is("one ahead, none behind (one is alike)", x.step(50, 8, 1, 2), 4);
        due.is("7 seconds are left, second 1", x.step(50, 8, 2, 2), 8);
        due.is("two ahead", x.step(50, 8, 0, 3), 5);
        due.is("one ahead and one behind", x.step(50, 8, 1, 3), 7);
        due.is("6 are left, second 2", x.step(50, 8, 2, 3), 12);
        SecondHas in = Due.of("sp9;sp9;sp9", "y:9", "y:o*10+a-b", "y:d=6?1;y:d=5?5");
        in.rule(0, 0);
        in.rule(1, 1);
        in.rule(2, 2);
        due.is("none is in yet as the second begins", in.step(6, 9, 1, 1), 0);
        due.is("one is in and ahead", in.step(6, 9, 1, 2), 6);
        due.is("d falls", in.came(6, 9, 2), 1);
        due.is("the other", in.came(6, 9, 1), 1);
        SecondHas like = all(Due.of("s;s", "y:a+b+1"), 0);
        due.is("like ones are neither ahead nor behind", like.step(9, 9, 1, 1), 1);
    }

    private static void without(Due due) {
        SecondHas x = all(Due.of("sp3;sp2;sp1", "y:d"), 0);
        due.is("all", x.race(6, 9, 0), 1);
        due.is("without the first", x.without(6, 9, 0), 2);
        due.is("without the second", x.without(6, 9, 1), 2);
        due.is("without the third", x.without(6, 9, 2), 1);
        due.is("the rule stays", Due.striver(x, 0, 4), 0);
        due.is("all, as before", x.race(6, 9, 0), 1);
        SecondHas counted = Due.of("s;s;lr1", "y:b>0?3;y:1", "y:1");
        counted.rule(0, 0);
        counted.rule(1, 1);
        due.is("both", counted.came(4, 9, 0), 3);
        due.is("the one at the start is counted", counted.without(4, 3, 1), 0);
        due.is("alone", counted.race(4, 3, 0), Due.NONE);
    }

    private static void choice(Due due) {
        SecondHas x = Due.of("sp9;s", "y:1", "y:3", "y:2");
        x.rule(1, 2);
        due.is("by no rule", x.choice(6, 9, 1), Due.NONE);
        due.is("the lowest by which it is second", x.choice(6, 9, 0), 0);
        x.change(0, 1);
        due.is("the lowest by which it is first", x.choice(6, 9, 0), 1);
        due.is("its own rule does not matter", Due.striver(x, 0, 4), Due.NONE);
        x.rule(0, 2);
        due.is("it loses to a like one ahead", x.choice(6, 9, 1), 1);
        due.is("too short a day", x.choice(6, 1, 1), Due.NONE);
        due.is("the rule stays", Due.striver(x, 1, 4), 2);
        due.is("no rules", Due.of("s;s").choice(1, 1, 0), Due.NONE);
    }

    private static void latest(Due due) {
        SecondHas x = all(Due.of("sp3;sp2", "y:d", "y:l<4?1"), 0);
        due.is("till the second is in", x.latest(6), 3);
        due.is("a track of 99", x.latest(99), 50);
        x.change(0, 1);
        due.is("till the first is in", x.latest(6), 2);
        x.change(0, 3);
        due.is("never", x.latest(6), Due.NONE);
        x.change(0, 2);
        all(x, 1);
        due.is("by the seconds that are left", x.latest(3), 3);
        due.is("three steps and no more", x.latest(4), Due.NONE);
        SecondHas slow = all(Due.of("s;s", "y:1"), 0);
        due.is("just in time", slow.latest(99), 99);
        due.is("in the first second", slow.latest(1), 1);
    }

    /** Each question is the first one behind a change of rules. */
    private static void changedRules(Due due) {
        SecondHas x = all(Due.of("sp3;sp2", "y:d", "y:1"), 0);
        due.is("came", x.came(6, 9, 0), 1);
        all(x, 1);
        due.is("came by the other rule", x.came(6, 9, 0), 5);
        all(x, 0);
        due.is("step", x.step(6, 9, 0, 1), 3);
        all(x, 1);
        due.is("race", x.race(6, 9, 2), 5);
        all(x, 0);
        due.is("latest", x.latest(6), 3);
        x.rule(0, Due.NONE);
        due.is("medal", x.medal(6, 9, 0), 0);
        due.is("medal of the other", x.medal(6, 9, 1), 1);
        x.rule(0, 0);
        due.is("without", x.without(6, 9, 1), Due.NONE);
        due.is("medal behind without", x.medal(6, 9, 1), 2);
        due.is("choice", x.choice(6, 9, 0), 1);
        due.is("came behind choice", x.came(6, 9, 0), 1);
        x.image();
        all(x, Due.NONE);
        x.back();
        due.is("by the rules of the image", x.race(6, 9, 1), 2);
    }

    private static void refused(Due due) {
        SecondHas none = new SecondHas();
        SecondHas x = all(Due.of("s;s", "y:1"), 0);
        int[][] wrong = {{0, 1}, {100, 1}, {1, 0}, {1, 100}, {-1, 1}, {1, -1}, {Integer.MIN_VALUE, 5}};
        for (int[] one : wrong) {
            due.is("race", x.race(one[0], one[1], 0), Due.HIDDEN);
            due.is("came", x.came(one[0], one[1], 0), Due.HIDDEN);
            due.is("step", x.step(one[0], one[1], 0, 0), Due.HIDDEN);
            due.is("without", x.without(one[0], one[1], 0), Due.HIDDEN);
            due.is("choice", x.choice(one[0], one[1], 0), Due.HIDDEN);
            due.is("medal", x.medal(one[0], one[1], 0), Due.HIDDEN);
        }
        for (int striver = -1; striver <= 2; striver += 3) {
            due.is("came", x.came(1, 1, striver), Due.HIDDEN);
            due.is("step", x.step(1, 1, striver, 0), Due.HIDDEN);
            due.is("without", x.without(1, 1, striver), Due.HIDDEN);
            due.is("choice", x.choice(1, 1, striver), Due.HIDDEN);
            due.is("medal", x.medal(1, 1, striver), Due.HIDDEN);
        }
        due.is("race what", x.race(1, 1, 3), Due.HIDDEN);
        due.is("race what", x.race(1, 1, -1), Due.HIDDEN);
        due.is("step at -1", x.step(1, 1, 0, -1), Due.HIDDEN);
        due.is("step at dusk", x.step(1, 1, 0, 1), 1);
        due.is("step behind dusk", x.step(1, 1, 0, 2), Due.HIDDEN);
        due.is("latest 0", x.latest(0), Due.HIDDEN);
        due.is("latest 100", x.latest(100), Due.HIDDEN);
        due.is("the longest", x.race(99, 99, 2), 98);
        due.is("no land", none.race(1, 1, 0), Due.HIDDEN);
        due.is("no land", none.came(1, 1, 0), Due.HIDDEN);
        due.is("no land", none.step(1, 1, 0, 0), Due.HIDDEN);
        due.is("no land", none.without(1, 1, 0), Due.HIDDEN);
        due.is("no land", none.choice(1, 1, 0), Due.HIDDEN);
        due.is("no land", none.latest(1), Due.HIDDEN);
        due.is("no land", none.medal(1, 1, 0), Due.HIDDEN);
    }
}
