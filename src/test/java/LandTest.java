/** Promises 4 to 8: fault, text, striver, law, change; of LANDS. */
public final class LandTest {
    public static void main(String[] args) {
        Due due = new Due();
        soundTexts(due);
        faults(due);
        numbers(due);
        whatIsTold(due);
        anotherLand(due);
        refusedTexts(due);
        changing(due);
        due.end("LandTest");
    }

    private static void fault(Due due, String text, int want) {
        due.is("fault(0) of " + text, Due.fault(text, 0), want);
    }

    private static void soundTexts(Due due) {
        for (String text : new String[] {"s;s", "s;s;s;s;s;s", "l;s;s", "s;l;s", "s;s;s;s;l;s;s", "sw99k4b9p9;sp1w0k0b0",
            "lm9f99q2t1r6;s;s", "s p 3 w 07 ; s", "  s;s  ", "sb09;sp09", "s;s;lr1t0q0f0m0"}) {
            fault(due, text, Due.NONE);
        }
        SecondHas x = new SecondHas();
        due.is("fault of no sort", x.fault(-1), -2);
        due.is("fault of no sort", x.fault(2), -2);
        due.is("fault of no sort", x.fault(Integer.MIN_VALUE), -2);
    }

    private static void faults(Due due) {
        fault(due, "", 0);
        fault(due, "   ", 3);
        fault(due, "s", 1);
        fault(due, "s  ", 3);
        fault(due, "l", 1);
        fault(due, "s;l", 3);
        fault(due, "s;s;", 4);
        fault(due, "s;s; ", 5);
        fault(due, ";s;s", 0);
        fault(due, "s;;s", 2);
        fault(due, "s,s", 1);
        fault(due, "ss", 1);
        fault(due, "S;s", 0);
        fault(due, "s;s;x", 4);
        fault(due, "s;s x", 4);
        fault(due, "s;s;s;s;s;s;s", 12);
        fault(due, "s;s;s;l;s;s;s; s", 15);
        fault(due, "s;s;s;s;s;s;l;", 14);
        fault(due, "s;l;s;l", 6);
        fault(due, "lr1;l;s;s", 4);
        fault(due, "s;sr1", 3);
        fault(due, "s;s;lp1", 5);
        fault(due, "s;s;lm1r1m2", 9);
        fault(due, "sp1p1;s", 3);
        fault(due, "sp1;sp1", Due.NONE);
        fault(due, "s;s\u0080", 3);
        fault(due, "s;s\u00ff;", 3);
    }

    private static void numbers(Due due) {
        fault(due, "sp", 2);
        fault(due, "sp;s", 2);
        fault(due, "sp ;s", 3);
        fault(due, "spw1;s", 2);
        fault(due, "sp-1;s", 2);
        fault(due, "s;sp0", 4);
        fault(due, "s;sp0 ", 4);
        fault(due, "s;sp00", 5);
        fault(due, "s;sp01", Due.NONE);
        fault(due, "sp0 5;s", 2);
        fault(due, "sp1 5;s", 4);
        fault(due, "sp10;s", 3);
        fault(due, "sp100;s", 4);
        fault(due, "sp001;s", 4);
        fault(due, "sw99;s", Due.NONE);
        fault(due, "sw100;s", 4);
        fault(due, "sk5;s", 2);
        fault(due, "sk05;s", 3);
        fault(due, "sb10;s", 3);
        fault(due, "sb9;s", Due.NONE);
        fault(due, "lr0;s;s", 2);
        fault(due, "lr7;s;s", 2);
        fault(due, "lt2;s;s", 2);
        fault(due, "lq3;s;s", 2);
        fault(due, "lf99;s;s", Due.NONE);
        fault(due, "lf099;s;s", 4);
        fault(due, "lm10;s;s", 3);
        fault(due, "s;sk9", 4);
        fault(due, "sk9x", 2);
    }

    private static void whatIsTold(Due due) {
        SecondHas x = Due.of("s ; l r3 q 1 f42 ; s b9k4w7p1; sw0");
        due.is("count(0)", x.count(0), 3);
        int[][] want = {{3, 10, 0, 0, -1}, {1, 7, 4, 9, -1}, {3, 0, 0, 0, -1}};
        for (int i = 0; i < 3; i++) {
            for (int what = 0; what < 5; what++) {
                due.is("striver " + i + " " + what, Due.striver(x, i, what), want[i][what]);
            }
        }
        int[] law = {3, 0, 1, 42, 5};
        for (int what = 0; what < 5; what++) {
            due.is("law " + what, x.law(what), law[what]);
        }
        due.is("law -1", x.law(-1), Due.NONE);
        due.is("law 5", x.law(5), Due.NONE);
        int[][] wrong = {{-1, 0}, {3, 0}, {0, -1}, {0, 5}, {Integer.MAX_VALUE, 0}, {0, Integer.MIN_VALUE}};
        for (int[] one : wrong) {
            due.is("striver " + one[0] + " " + one[1] + " throws", Due.striver(x, one[0], one[1]), Long.MIN_VALUE);
        }
        SecondHas usual = Due.of("s;s");
        int[] usualLaw = {2, 0, 0, 0, 5};
        for (int what = 0; what < 5; what++) {
            due.is("the usual law " + what, usual.law(what), usualLaw[what]);
        }
        SecondHas told = Due.of("sb9;s;lm3");
        due.is("the bid as told, though above MOST", Due.striver(told, 0, 3), 9);
    }

    private static void anotherLand(Due due) {
        SecondHas x = Due.of("s;s;s;lr1f7m9", "y:1", "y:2");
        x.rule(0, 1);
        x.honour(123);
        x.image();
        x.change(1, 1);
        due.is("another land", Due.land(x, "sw3;s;lm2"), 2);
        due.is("its strivers", x.count(0), 2);
        due.is("rules stay", x.count(1), 2);
        due.is("the tape is empty", x.count(2), 0);
        due.is("the book is gone", x.count(3), 0);
        due.is("no image of this land", x.back(), Due.NONE);
        due.is("rules of strivers are gone", Due.striver(x, 0, 4), Due.NONE);
        due.is("place", x.law(0), 2);
        due.is("ties", x.law(1), 0);
        due.is("fee", x.law(3), 0);
        due.is("most", x.law(4), 2);
        due.is("worth", Due.striver(x, 0, 1), 3);
        due.is("worth of one without", Due.striver(x, 1, 1), 10);
    }

    private static void refusedTexts(Due due) {
        SecondHas x = Due.of("s;s;s;lf7", "y:1");
        x.rule(1, 0);
        x.honour(1);
        due.is("a fault", Due.land(x, "s;s;"), Due.NONE);
        due.is("the tape stays", x.count(2), 4);
        due.is("the land stays", x.count(0), 3);
        due.is("the law stays", x.law(3), 7);
        due.is("the book stays", x.count(3), 1);
        due.is("rules of strivers stay", Due.striver(x, 1, 4), 0);
        x.end(0);
        Due.feed(x, "s;s");
        due.is("no such sort", x.text(2), Due.NONE);
        due.is("no such sort", x.text(-1), Due.NONE);
        due.is("no rule", x.text(1), Due.NONE);
        due.is("the tape stays", x.count(2), 3);
        due.is("a fault asked for changes nothing", x.fault(0), Due.NONE);
        due.is("the land is as it was", x.count(0), 3);
        due.is("then it is taken", x.text(0), 2);
    }

    private static void changing(Due due) {
        int[] lows = {1, 0, 0, 0, 0};
        int[] highs = {6, 1, 2, 99, 9};
        SecondHas x = Due.of("s;s");
        for (int what = 0; what < 5; what++) {
            due.is("change to the highest", x.change(what, highs[what]), true);
            due.is("law", x.law(what), highs[what]);
            due.is("change above", x.change(what, highs[what] + 1), false);
            due.is("change below", x.change(what, lows[what] - 1), false);
            due.is("law as it was", x.law(what), highs[what]);
            due.is("change to the lowest", x.change(what, lows[what]), true);
            due.is("law", x.law(what), lows[what]);
        }
        due.is("no such what", x.change(5, 1), false);
        due.is("no such what", x.change(-1, 1), false);
        SecondHas bids = Due.of("sb7;sb2;lm9");
        due.is("bids told", bids.rounds(1), 72);
        bids.change(4, 3);
        due.is("taken as MOST", bids.rounds(1), 32);
        bids.change(4, 8);
        due.is("as long as it is so", bids.rounds(1), 72);
    }
}
