/** Promises 4 and 5, each sentence that names an edge: which TEXTS are LANDS and RULES, where they are wrong. */
public final class EdgeTextTest {
    private static final String DIGITS = "0123456789";
    private static final String LETTERS = "dabolt";
    private static final String SIGNS = "+-*/";
    private static final String COMPARE = "=<>";

    public static void main(String[] args) throws ReflectiveOperationException {
        Sentences.run(EdgeTextTest.class);
    }

    private static void land(Due due, String text, int want) {
        due.is("fault(0) of '" + text + "'", Due.fault(text, 0), want);
    }

    private static void rule(Due due, String text, int want) {
        due.is("fault(1) of '" + text + "'", Due.fault(text, 1), want);
    }

    /** Behind a text each of the 255 bytes is put: those told (and a blank) go on, all others are wrong there. */
    private static void goesOn(Due due, int sort, String text, String with) {
        for (char one = 1; one <= 255; one++) {
            int fault = Due.fault(text + one, sort);
            boolean on = one == ' ' || with.indexOf(one) >= 0;
            boolean held = fault == (on ? text.length() + 1 : text.length()) || (on && fault == Due.NONE);
            due.is("byte " + (int) one + " behind '" + text + "' (" + fault + ")", held, true);
        }
    }

    // ---- LANDS

    @Says(promise = 4, words = "s (a STRIVER; 2 .. 6 of them)")
    static void howManyStrivers(Due due) {
        land(due, "", 0);
        land(due, "s", 1);
        for (int many = 2; many <= 6; many++) {
            land(due, "s;".repeat(many - 1) + "s", Due.NONE);
        }
        land(due, "s;".repeat(6) + "s", 12);
        land(due, "s;".repeat(7) + "s", 12);
        land(due, "l;" + "s;".repeat(6) + "s", 14);
        land(due, "s;".repeat(6) + "l;s", 14);
        land(due, "s;".repeat(6) + "sp0", 12);
    }

    @Says(promise = 4, words = "one l (the LAW) at most, in any order")
    static void oneLawAtMost(Due due) {
        land(due, "s;s", Due.NONE);
        land(due, "l;s;s", Due.NONE);
        land(due, "s;l;s", Due.NONE);
        land(due, "s;s;l", Due.NONE);
        land(due, "s;s;s;s;s;s;l", Due.NONE);
        land(due, "l;l;s;s", 2);
        land(due, "l;s;l;s", 4);
        land(due, "s;s;l;l", 6);
        land(due, "s;s;lr1 ; lt1", 10);
        land(due, "ll;s;s", 1);
    }

    @Says(promise = 4, words = "a letter, each once at most in a CLAUSE")
    static void eachLetterOnce(Due due) {
        for (char letter : "pwkb".toCharArray()) {
            land(due, "s" + letter + "1" + letter + "1;s", 3);
            land(due, "s" + letter + "1;s" + letter + "1", Due.NONE);
            land(due, "s;s;l" + letter + "1", 5);
        }
        for (char letter : "rtqfm".toCharArray()) {
            land(due, "s;s;l" + letter + "1" + letter + "1", 7);
            land(due, "s" + letter + "1;s", 1);
        }
        land(due, "sp1w1k1b1;sb1k1w1p1;lr1t1q1f1m1", Due.NONE);
        land(due, "sp1w1k1b1p1;s", 9);
        land(due, "sp1w1k1b1w1;s", 9);
        land(due, "lr1t1q1f1m1r1;s;s", 11);
        land(due, "lm1f1q1t1r1m1;s;s", 11);
        land(due, "sp1 w1 p;s", 7);
    }

    @Says(promise = 4, words = "a number (one or two digits)")
    static void oneDigitOrTwo(Due due) {
        land(due, "sw;s", 2);
        land(due, "sw", 2);
        land(due, "swp1;s", 2);
        land(due, "sw1;s", Due.NONE);
        land(due, "sw12;s", Due.NONE);
        land(due, "sw00;s", Due.NONE);
        land(due, "sw123;s", 4);
        land(due, "sw1234;s", 4);
        land(due, "sw+1;s", 2);
        land(due, "s;sw1", Due.NONE);
        land(due, "s;sw", 4);
    }

    @Says(promise = 4, words = "a number out of bounds is wrong at its last digit")
    static void eachNumberOfEachLetter(Due due) {
        String letters = "pwkbrtqfm";
        int[] lows = {1, 0, 0, 0, 1, 0, 0, 0, 0};
        int[] highs = {9, 99, 4, 9, 6, 1, 2, 99, 9};
        for (int i = 0; i < letters.length(); i++) {
            for (int value = 0; value <= 99; value++) {
                boolean sound = value >= lows[i] && value <= highs[i];
                String front = i < 4 ? "s" : "s;s;l";
                String back = i < 4 ? ";s" : "";
                String two = front + letters.charAt(i) + (value < 10 ? "0" : "") + value;
                land(due, two + back, sound ? Due.NONE : two.length() - 1);
                land(due, two + "9" + back, two.length());
                if (value < 10) {
                    String one = front + letters.charAt(i) + value;
                    land(due, one + back, sound ? Due.NONE : one.length() - 1);
                    land(due, one + " " + back, sound ? Due.NONE : one.length() - 1);
                }
            }
        }
    }

    @Says(promise = 4, words = "a third digit (whatever stands ahead of it; a fifth one in a RULE) itself")
    static void theThirdDigit(Due due) {
        for (String ahead : new String[] {"sp1", "sp0", "sp9", "sk9", "sw9", "sb9"}) {
            for (char second : DIGITS.toCharArray()) {
                for (char third : DIGITS.toCharArray()) {
                    land(due, ahead + second + third + ";s", 4);
                }
            }
        }
        land(due, "s;s;lr000", 8);
        land(due, "s;s;lf999", 8);
        land(due, "s;s;lm1 00", 8);
    }

    @Says(promise = 4, words = "(the length, if it ends too early, or with fewer than two STRIVERS)")
    static void textsThatEndTooEarly(Due due) {
        String text = "sp1w22k3b4;lr1t1q2f33m4;s;sp9";
        for (int n = 0; n < text.length(); n++) {
            boolean whole = n >= 25 && n != 26 && n != 28;
            land(due, text.substring(0, n), whole ? Due.NONE : n);
            land(due, text.substring(0, n) + "  ", whole ? Due.NONE : n + 2);
        }
        land(due, text, Due.NONE);
        land(due, "l", 1);
        land(due, "l;s", 3);
        land(due, "sp5;l ", 6);
        land(due, "   ", 3);
        land(due, "s;s;", 4);
        land(due, "s;".repeat(6), 12);
        land(due, "s;".repeat(6) + "l;", 14);
    }

    @Says(promise = 4, words = "Blanks (32) may stand between all signs of both, not within numbers.")
    static void blanksInLands(Due due) {
        String text = "sp1w22k3b04;lr1t1q2f33m4;s";
        for (int at = 0; at <= text.length(); at++) {
            boolean within = at > 0 && at < text.length() && DIGITS.indexOf(text.charAt(at)) >= 0
                    && DIGITS.indexOf(text.charAt(at - 1)) >= 0;
            String spread = text.substring(0, at) + "  " + text.substring(at);
            land(due, spread + ";s", within ? at + 2 : Due.NONE);
        }
        land(due, text.replace("", " ").replace("2 2", "22").replace("0 4", "04").replace("3 3", "33") + ";s", Due.NONE);
        land(due, "s;s\t", 3);
        land(due, "s;\ns", 2);
        land(due, "s;s\u00a0", 3);
    }

    @Says(promise = 4, words = "FAULT: the first byte at which no such TEXT can go on")
    static void eachByteOfALand(Due due) {
        goesOn(due, 0, "", "sl");
        goesOn(due, 0, "  ", "sl");
        goesOn(due, 0, "s", "pwkb;");
        goesOn(due, 0, "s ", "pwkb;");
        goesOn(due, 0, "sp", "123456789");
        goesOn(due, 0, "sk", "01234");
        goesOn(due, 0, "sw", DIGITS);
        goesOn(due, 0, "sb", DIGITS);
        goesOn(due, 0, "sp1", "wkb;");
        goesOn(due, 0, "sw1", "pkb;" + DIGITS);
        goesOn(due, 0, "sw1 ", "pkb;");
        goesOn(due, 0, "sw10", "pkb;");
        goesOn(due, 0, "sw1k1b1p1", ";");
        goesOn(due, 0, "s;", "sl");
        goesOn(due, 0, "s;s", "pwkb;");
        goesOn(due, 0, "l", "rtqfm;");
        goesOn(due, 0, "lr", "123456");
        goesOn(due, 0, "lt", "01");
        goesOn(due, 0, "lq", "012");
        goesOn(due, 0, "lf", DIGITS);
        goesOn(due, 0, "lm", DIGITS);
        goesOn(due, 0, "lf9", "rtqm;" + DIGITS);
        goesOn(due, 0, "lr1t1q1f1m1", ";");
        goesOn(due, 0, "l;", "s");
        goesOn(due, 0, "s;s;s;s;s;s;", "l");
        goesOn(due, 0, "s;s;s;s;s;s;l;", "");
    }

    @Says(promise = 4, words = "NONE: none. -2: no such sort.")
    static void noSuchSort(Due due) {
        for (int sort : new int[] {Integer.MIN_VALUE, -2, -1, 2, 3, 255, 256, Integer.MAX_VALUE}) {
            Watch.same(due, "fault " + sort, States::three, x -> x.fault(sort), -2);
            Watch.same(due, "fault " + sort, States::none, x -> x.fault(sort), -2);
        }
        Watch.same(due, "a rule as a land", States::three, x -> x.fault(0), 0);
        Watch.same(due, "a rule as a rule", States::three, x -> x.fault(1), Due.NONE);
        Watch.same(due, "a land as a rule", States::none, x -> x.fault(1), 0);
        Watch.same(due, "a land as a land", States::none, x -> x.fault(0), Due.NONE);
        Watch.same(due, "an empty tape", SecondHas::new, x -> x.fault(0), 0);
        Watch.same(due, "an empty tape", SecondHas::new, x -> x.fault(1), 0);
        Watch.same(due, "a full tape", States::fullTape, x -> x.fault(0), Due.NONE);
        Watch.same(due, "a fifth rule", States::fourRules, x -> x.fault(1), Due.NONE);
    }

    // ---- RULES

    @Says(promise = 4, words = "CLAUSES with ; between, one at least")
    static void oneClauseAtLeast(Due due) {
        rule(due, "", 0);
        rule(due, " ", 1);
        rule(due, ";", 0);
        rule(due, "y:1", Due.NONE);
        rule(due, ";y:1", 0);
        rule(due, "y:1;", 4);
        rule(due, "y:1;;y:1", 4);
        rule(due, "y:1;y:1", Due.NONE);
        rule(due, "y:1" + ";y:1".repeat(39), Due.NONE);
        rule(due, "y:1;y:1=1?1;y:1;y", 17);
    }

    @Says(promise = 4, words = "ATOM: a number (1 to 4 digits)")
    static void oneToFourDigits(Due due) {
        rule(due, "y:", 2);
        for (int digits = 1; digits <= 4; digits++) {
            rule(due, "y:" + "7".repeat(digits), Due.NONE);
            rule(due, "y:" + "0".repeat(digits), Due.NONE);
        }
        rule(due, "y:77777", 6);
        rule(due, "y:00000", 6);
        rule(due, "y:00001;y:1", 6);
        rule(due, "y:7777 7", 7);
        rule(due, "y:1=12345?1", 8);
        rule(due, "y:1=1?12345", 10);
        rule(due, "y:[12345", 7);
    }

    @Says(promise = 4, words = "At most six of ( [ ! within one another.")
    static void sixWithinOneAnother(Due due) {
        String[] opens = {"!", "("};
        for (int bits = 0; bits < 64; bits++) {
            StringBuilder open = new StringBuilder("y:");
            StringBuilder close = new StringBuilder();
            for (int i = 0; i < 6; i++) {
                open.append(opens[bits >> i & 1]);
                close.append((bits >> i & 1) == 1 ? ")" : "");
            }
            rule(due, open + "1=1" + close + "?1", Due.NONE);
            rule(due, open + "!1=1" + close + "?1", 8);
            rule(due, open + "(1=1)" + close + "?1", 8);
            rule(due, open + "[1]=1" + close + "?1", 8);
            rule(due, open + "1=[1]" + close + "?1", 10);
        }
        for (int brackets = 0; brackets <= 6; brackets++) {
            String front = "y:" + "(".repeat(6 - brackets) + "[".repeat(brackets);
            String back = "]".repeat(brackets) + "=1" + ")".repeat(6 - brackets) + "?1";
            rule(due, front + "1" + back, Due.NONE);
            rule(due, front + "[1]" + back, 8);
            rule(due, front + "[", 8);
        }
    }

    @Says(promise = 4, words = "At most six of ( [ ! within one another.")
    static void sixInEachPlace(Due due) {
        String[] sums = {"", "1+", "1*", "1=1?", "1=1?1-", "1=1?1/", "!1=1?", "(1=1)?", "[1]=1?", "1;y:", "1=1?1;y:1=1?", "1=1?1;y:"};
        for (String front : sums) {
            String text = "y:" + front + "[".repeat(6);
            rule(due, text + "1" + "]".repeat(6), Due.NONE);
            rule(due, text + "[1" + "]".repeat(7), text.length());
        }
        String[] units = {"", "1=1&", "1=1|", "1=1&1=1|", "1=1?1;y:", "1;y:1=1|"};
        for (String front : units) {
            for (char open : "!(".toCharArray()) {
                String text = "y:" + front + String.valueOf(open).repeat(6);
                rule(due, text + "1=1" + (open == '(' ? ")".repeat(6) : "") + "?1", Due.NONE);
                rule(due, text + open + "1=1", text.length());
                rule(due, text + "[1]=1", text.length());
            }
            for (String side : new String[] {"", "1=", "1+", "1=1+"}) {
                String text = "y:" + front + side + "[".repeat(6);
                rule(due, text + "1" + "]".repeat(6) + (side.contains("=") ? "?1" : "=1?1"), Due.NONE);
                rule(due, text + "[", text.length());
            }
        }
    }

    @Says(promise = 4, words = "a seventh of ( [ ! at it")
    static void whatIsClosedCountsNoMore(Due due) {
        rule(due, "y:" + "[".repeat(6) + "1" + "]".repeat(6) + "+" + "[".repeat(6) + "1" + "]".repeat(6), Due.NONE);
        rule(due, "y:" + "[".repeat(6) + "1" + "]".repeat(6) + "+" + "[".repeat(7), 22);
        rule(due, "y:!!!!!!1=1&!!!!!!1=1?1", Due.NONE);
        rule(due, "y:!!!!!!1=1&!!!!!!!1=1?1", 18);
        rule(due, "y:((((((1=1))))))|((((((1=1))))))?[[[[[[1]]]]]]", Due.NONE);
        rule(due, "y:(1=1)&(1=1)&(1=1)&(1=1)&(1=1)&(1=1)&(1=1)?1", Due.NONE);
        rule(due, "y:[1]+[1]+[1]+[1]+[1]+[1]+[1]", Due.NONE);
        rule(due, "y:!1=1&!1=1&!1=1&!1=1&!1=1&!1=1&!1=1?1", Due.NONE);
        rule(due, "y:(((((1=1|!1=1)))))?1", Due.NONE);
        rule(due, "y:((((((1=1|!1=1))))))?1", 12);
        rule(due, "y:((((((1=1|(1=1)))))))?1", 12);
        rule(due, "y:[[[[[[1+[1]]]]]]]", 10);
        rule(due, "y: ! ! ! ! ! ! !", 15);
    }

    @Says(promise = 4, words = "(the length, if it ends too early")
    static void rulesThatEndTooEarly(Due due) {
        String text = "y:!(d=1|a<22)&[b+1]*2>t?[o-1]/3;y:12+l";
        for (int n = 0; n <= text.length(); n++) {
            boolean sound = n == 29 || n == 31 || n == 35 || n == 36 || n == 38;
            rule(due, text.substring(0, n), sound ? Due.NONE : n);
            rule(due, text.substring(0, n) + " ", sound ? Due.NONE : n + 1);
        }
    }

    @Says(promise = 4, words = "Blanks (32) may stand between all signs of both, not within numbers.")
    static void blanksInRules(Due due) {
        String text = "y:!(d=1|a<22)&[b+1]*2>t?[o-1]/3;y:1234+l";
        for (int at = 0; at <= text.length(); at++) {
            boolean within = at > 0 && at < text.length() && DIGITS.indexOf(text.charAt(at)) >= 0
                    && DIGITS.indexOf(text.charAt(at - 1)) >= 0;
            rule(due, text.substring(0, at) + "   " + text.substring(at), within ? at + 3 : Due.NONE);
        }
        rule(due, "y:1\t", 3);
        rule(due, "y\n:1", 1);
    }

    @Says(promise = 4, words = "(A CLAUSE that goes on with ! or ( behind its : has a CONDITION.)")
    static void whatHasACondition(Due due) {
        rule(due, "y:(1)", 4);
        rule(due, "y:(d)+1", 4);
        rule(due, "y:([1])", 6);
        rule(due, "y:(1=1)", 7);
        rule(due, "y:(1=1);y:1", 7);
        rule(due, "y:!1;", 4);
        rule(due, "y:!1=1", 6);
        rule(due, "y:!1=1;", 6);
        rule(due, "y:(1=1)?1", Due.NONE);
        rule(due, "y:!1=1?1", Due.NONE);
        rule(due, "y:[1]=1?1", Due.NONE);
        rule(due, "y:[1]", Due.NONE);
    }

    @Says(promise = 4, words = "FAULT: the first byte at which no such TEXT can go on")
    static void eachByteOfARule(Due due) {
        String begins = DIGITS + LETTERS + "[";
        goesOn(due, 1, "", "y");
        goesOn(due, 1, "y", ":");
        goesOn(due, 1, "y:", begins + "!(");
        goesOn(due, 1, "y:1", DIGITS + SIGNS + COMPARE + ";");
        goesOn(due, 1, "y:1 ", SIGNS + COMPARE + ";");
        goesOn(due, 1, "y:1234", SIGNS + COMPARE + ";");
        goesOn(due, 1, "y:d", SIGNS + COMPARE + ";");
        goesOn(due, 1, "y:1+", begins);
        goesOn(due, 1, "y:1*", begins);
        goesOn(due, 1, "y:[", begins);
        goesOn(due, 1, "y:[1", DIGITS + SIGNS + "]");
        goesOn(due, 1, "y:[1]", SIGNS + COMPARE + ";");
        goesOn(due, 1, "y:1=", begins);
        goesOn(due, 1, "y:1<1", DIGITS + SIGNS + "&|?");
        goesOn(due, 1, "y:1>d", SIGNS + "&|?");
        goesOn(due, 1, "y:1=1&", begins + "!(");
        goesOn(due, 1, "y:1=1|", begins + "!(");
        goesOn(due, 1, "y:!", begins + "!(");
        goesOn(due, 1, "y:!1", DIGITS + SIGNS + COMPARE);
        goesOn(due, 1, "y:(", begins + "!(");
        goesOn(due, 1, "y:(1", DIGITS + SIGNS + COMPARE);
        goesOn(due, 1, "y:(1=d", SIGNS + "&|)");
        goesOn(due, 1, "y:(1=d)", "&|?");
        goesOn(due, 1, "y:1=1?", begins);
        goesOn(due, 1, "y:1=1?d", SIGNS + ";");
        goesOn(due, 1, "y:1;", "y");
        goesOn(due, 1, "y:[[[[[[", DIGITS + LETTERS);
        goesOn(due, 1, "y:((((((", DIGITS + LETTERS);
        goesOn(due, 1, "y:!!!!!!", DIGITS + LETTERS);
    }

    // ---- taking them

    @Says(promise = 5, words = "The TAPE (empty then) is the LAND")
    static void theTapeIsEmptyThen(Due due) {
        SecondHas x = States.none();
        due.is("taken", x.text(0), 2);
        due.is("bytes", x.count(2), 0);
        due.is("the empty tape is no land", x.text(0), Due.NONE);
        due.is("the land stays", x.count(0), 2);
        SecondHas full = States.fullTape();
        due.is("a full tape", full.text(0), 2);
        due.is("bytes", full.count(2), 0);
        due.is("room again", full.feed(-1, -1, -1, -1, -1), 20);
        for (int many = 2; many <= 6; many++) {
            due.is("how many", Due.land(new SecondHas(), "s;".repeat(many - 1) + "s"), many);
        }
    }

    @Says(promise = 5, words = "(all that was of another one is gone but RULES)")
    static void allThatWasIsGone(Due due) {
        SecondHas x = States.three();
        due.is("another", Due.land(x, "s;s;s;s"), 4);
        due.is("strivers", x.count(0), 4);
        due.is("rules stay", x.count(1), 3);
        due.is("the book is gone", x.count(3), 0);
        due.is("nothing to undo", x.undo(), Due.NONE);
        due.is("no image of this land", x.back(), Due.NONE);
        int[] law = {2, 0, 0, 0, 5};
        for (int what = 0; what < 5; what++) {
            due.is("the usual law", x.law(what), law[what]);
        }
        int[] usual = {3, 10, 0, 0, Due.NONE};
        for (int i = 0; i < 4; i++) {
            for (int what = 0; what < 5; what++) {
                due.is("the usual striver", Due.striver(x, i, what), usual[what]);
            }
        }
        due.is("a rule that stayed", x.rule(3, 1), true);
        due.is("and is what it was", x.step(9, 9, 3, 4), 4);
        SecondHas rests = Due.of("s;s;lr1m9");
        due.is("rests of the one: 9 and 9", rests.rests(-1), 1);
        due.is("another", Due.land(rests, "s;s;lr6m9"), 2);
        due.is("rests of the other", rests.rests(-1), 100);
        SecondHas same = States.plain();
        same.image();
        due.is("the same text is another land", Due.land(same, "sp3w20;sp2w15;sp1w10"), 3);
        due.is("no image of it", same.back(), Due.NONE);
        due.is("an empty book", same.count(3), 0);
    }

    @Says(promise = 5, words = "a RULE: its number.")
    static void rulesByNumber(Due due) {
        SecondHas x = new SecondHas();
        for (int i = 0; i < 4; i++) {
            due.is("its number", Due.rule(x, "y:" + (i + 1)), i);
            due.is("the tape is empty", x.count(2), 0);
            due.is("how many", x.count(1), i + 1);
        }
        Due.land(x, "sp9;s");
        for (int i = 0; i < 4; i++) {
            due.is("given", x.rule(0, i), true);
            due.is("each is its own", x.step(99, 9, 0, 1), i + 1);
        }
        SecondHas full = new SecondHas();
        due.is("a rule of 160 bytes", Due.rule(full, "y:3" + "*1".repeat(78) + " "), 0);
        due.is("another of 160 bytes", Due.rule(full, "y:9-[1]" + "-0".repeat(76) + " "), 1);
        Due.land(full, "sp9;sp9");
        full.rule(0, 0);
        full.rule(1, 1);
        due.is("is worth 3", full.step(99, 9, 0, 1), 3);
        due.is("is worth 8", full.step(99, 9, 1, 1), 8);
    }

    @Says(promise = 5, words = "NONE: a FAULT, no such sort, there are four.")
    static void noSuchTextSort(Due due) {
        for (int sort : new int[] {Integer.MIN_VALUE, -2, -1, 2, 3, Integer.MAX_VALUE}) {
            Watch.same(due, "text " + sort, States::three, x -> x.text(sort), Due.NONE);
            Watch.same(due, "text " + sort, States::none, x -> x.text(sort), Due.NONE);
        }
    }

    @Says(promise = 5, words = "NONE: a FAULT, no such sort, there are four.")
    static void aTextWithAFault(Due due) {
        Watch.same(due, "a rule as a land", States::three, x -> x.text(0), Due.NONE);
        Watch.same(due, "a land as a rule", States::plain, x -> x.text(1), Due.NONE);
        Watch.same(due, "an empty tape", SecondHas::new, x -> x.text(0), Due.NONE);
        Watch.same(due, "an empty tape", SecondHas::new, x -> x.text(1), Due.NONE);
        for (String text : new String[] {"s", "s;s;", "s;s;s;s;s;s;s", "l;l", "sp9w99;sk5", "sp8;sp7;sp0", "sp9;sp9 x"}) {
            Watch.same(due, "text(0) of " + text, () -> withTape(States.three(), text), x -> x.text(0), Due.NONE);
        }
        for (String text : new String[] {"y", "y:", "y:9;", "y:9=9", "y:12345", "y:[[[[[[[1", "y:8;y:7 8"}) {
            Watch.same(due, "text(1) of " + text, () -> withTape(States.three(), text), x -> x.text(1), Due.NONE);
        }
    }

    @Says(promise = 5, words = "NONE: a FAULT, no such sort, there are four.")
    static void thereAreFourRules(Due due) {
        Watch.same(due, "a fifth", States::fourRules, x -> x.text(1), Due.NONE);
        SecondHas x = States.fourRules();
        due.is("a fifth", x.text(1), Due.NONE);
        due.is("the tape stays", x.count(2), 3);
        due.is("four", x.count(1), 4);
        due.is("another land", Due.land(x, "s;s"), 2);
        due.is("four still", Due.rule(x, "y:4"), Due.NONE);
    }

    private static SecondHas withTape(SecondHas x, String text) {
        x.end(0);
        Due.feed(x, text);
        return x;
    }
}
