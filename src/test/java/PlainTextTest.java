import java.util.ArrayList;
import java.util.List;

/** Promises 4 to 9, the plain sentences: LANDS in every order, every short RULE, every sum of four numbers. */
public final class PlainTextTest {
    private static final String SIGNS = "y:;1d+-*/=<>?!()[]&|";

    public static void main(String[] args) throws ReflectiveOperationException {
        Sentences.run(PlainTextTest.class);
    }

    // ---- LANDS

    @Says(promise = 4, words = "A LAND is a TEXT: CLAUSES with ; between: s (a STRIVER; 2 .. 6 of them), one l (the LAW) at most, in any order, ")
    static void clausesInEveryOrder(Due due) {
        for (int many = 1; many <= 9; many++) {
            for (int bits = 0; bits < 1 << many; bits++) {
                int strivers = 0;
                int laws = 0;
                int fault = Due.NONE;
                StringBuilder text = new StringBuilder();
                for (int i = 0; i < many; i++) {
                    boolean law = (bits >> i & 1) != 0;
                    text.append(i == 0 ? "" : ";");
                    strivers += law ? 0 : 1;
                    laws += law ? 1 : 0;
                    fault = fault == Due.NONE && (strivers > 6 || laws > 1) ? text.length() : fault;
                    text.append(law ? 'l' : 's');
                }
                int want = fault == Due.NONE && strivers < 2 ? text.length() : fault;
                due.is("fault(0) of " + text, Due.fault(text.toString(), 0), want);
                due.is("text(0) of " + text, Due.land(new SecondHas(), text.toString()), want == Due.NONE ? strivers : Due.NONE);
            }
        }
    }

    /** Each choice of letters in each order. */
    private static List<String> orders(String letters) {
        List<String> orders = new ArrayList<>();
        orders.add("");
        for (int from = 0; from < orders.size(); from++) {
            for (char letter : letters.toCharArray()) {
                if (orders.get(from).indexOf(letter) < 0) {
                    orders.add(orders.get(from) + letter);
                }
            }
        }
        return orders;
    }

    /** The letters of an order, each with the number that stands for it. */
    private static String items(String order, String letters, int[] numbers, String between) {
        StringBuilder text = new StringBuilder();
        for (char letter : order.toCharArray()) {
            text.append(between).append(letter).append(between).append(numbers[letters.indexOf(letter)]);
        }
        return text.toString();
    }

    @Says(promise = 6, words = ", then ITEMS, none or more: a letter, each once at most in a CLAUSE, and a number (one or two digits): of s: p PACE ")
    static void itemsOfStriversInEveryOrder(Due due) {
        int[] numbers = {7, 42, 3, 8};
        int[] without = {3, 10, 0, 0};
        for (String order : orders("pwkb")) {
            for (String between : new String[] {"", " "}) {
                SecondHas x = Due.of("s;s" + items(order, "pwkb", numbers, between) + between + ";s");
                for (int what = 0; what < 4; what++) {
                    boolean told = order.indexOf("pwkb".charAt(what)) >= 0;
                    due.is(order + " " + what, Due.striver(x, 1, what), told ? numbers[what] : without[what]);
                    due.is("the one ahead " + what, Due.striver(x, 0, what), without[what]);
                    due.is("the one behind " + what, Due.striver(x, 2, what), without[what]);
                }
            }
        }
    }

    @Says(promise = 7, words = "; of l: r PLACE that has the prize (1 .. 6; 2), t TIES (0, 1; 0), q what is PAID (0 .. 2; 0), f FEE (0 .. 99; 0), "
            + "m MOST that may be bid (0 .. 9; 5).")
    static void itemsOfTheLawInEveryOrder(Due due) {
        int[] numbers = {5, 1, 2, 61, 9};
        int[] without = {2, 0, 0, 0, 5};
        for (String order : orders("rtqfm")) {
            SecondHas x = Due.of("s;l" + items(order, "rtqfm", numbers, "") + ";s");
            for (int what = 0; what < 5; what++) {
                boolean told = order.indexOf("rtqfm".charAt(what)) >= 0;
                due.is(order + " " + what, x.law(what), told ? numbers[what] : without[what]);
            }
        }
    }

    @Says(promise = 4, words = ", a letter that was there, a seventh s, a second l, a seventh of ( [ ! at it.")
    static void wrongAtIt(Due due) {
        for (String order : orders("pwkb")) {
            String text = "s" + items(order, "pwkb", new int[] {1, 1, 1, 1}, "");
            for (char again : order.toCharArray()) {
                due.is(text + again, Due.fault(text + again + "1;s", 0), text.length());
            }
        }
        due.is("a seventh s", Due.fault("s;s;s;s;s;s;s;s", 0), 12);
        due.is("a seventh s behind the law", Due.fault("s;s;s;s;s;s;l;s", 0), 14);
        due.is("a second l", Due.fault("lm1;s;s;l", 0), 8);
        for (char opening : "([!".toCharArray()) {
            due.is("a seventh " + opening, Due.fault("y:" + String.valueOf(opening).repeat(8), 1), 8);
        }
    }

    @Says(promise = 6, words = "Of a STRIVER: 0 PACE, 1 WORTH, 2 KIND, 3 the BID it tells (as told), 4 its RULE (NONE).")
    static void whatIsToldOfSix(Due due) {
        SecondHas x = Due.of("sp1w99k4b9;sp2w88k3b8;sp3w77k2b7;sp4w66k1b6;sp5w55k0b5;sp6w44k4b4;lm2", "y:1", "y:2");
        for (int i = 0; i < 6; i++) {
            int[] want = {i + 1, 99 - 11 * i, i == 5 ? 4 : 4 - i, 9 - i, Due.NONE};
            for (int what = 0; what < 5; what++) {
                due.is(i + " " + what, Due.striver(x, i, what), want[what]);
            }
            x.rule(i, i % 2);
            due.is("its rule", Due.striver(x, i, 4), i % 2);
        }
    }

    @Says(promise = 7, words = "The LAW: 0 PLACE, 1 TIES, 2 PAID, 3 FEE, 4 MOST.")
    static void whatIsToldOfTheLaw(Due due) {
        SecondHas x = Due.of("s;s;lr3t1q2f45m6");
        int[] want = {3, 1, 2, 45, 6};
        for (int what = 0; what < 5; what++) {
            due.is("law " + what, x.law(what), want[what]);
        }
        x.change(3, 54);
        due.is("as changed", x.law(3), 54);
        due.is("what is not changed", x.law(4), 6);
    }

    // ---- both

    @Says(promise = 4, words = "The FAULT of the TAPE as a LAND (0), a RULE (1).")
    static void oneTapeAsBoth(Due due) {
        String[] texts = {"s;s", "y:1", "", " ", "s", "y", "sp1;sw2", "y:d=1?2", "x"};
        int[] lands = {Due.NONE, 0, 0, 1, 1, 0, Due.NONE, 0, 0};
        int[] rules = {0, Due.NONE, 0, 1, 0, 1, 0, Due.NONE, 0};
        for (int i = 0; i < texts.length; i++) {
            SecondHas x = new SecondHas();
            Due.feed(x, texts[i]);
            due.is("as a LAND: " + texts[i], x.fault(0), lands[i]);
            due.is("as a RULE: " + texts[i], x.fault(1), rules[i]);
            due.is("as a LAND again: " + texts[i], x.fault(0), lands[i]);
        }
    }

    @Says(promise = 5, words = "(all that was of another one is gone but RULES): how many STRIVERS; a RULE: its number.")
    static void textsOneBehindAnother(Due due) {
        SecondHas x = new SecondHas();
        for (int many = 2; many <= 6; many++) {
            due.is("strivers", Due.land(x, "s;".repeat(many - 1) + "s"), many);
            due.is("counted", x.count(0), many);
            due.is("a rule", Due.rule(x, "y:" + many), many < 6 ? many - 2 : Due.NONE);
            due.is("rules are not gone", x.count(1), Math.min(4, many - 1));
            for (int i = 0; i < many; i++) {
                due.is("none has a rule", Due.striver(x, i, 4), Due.NONE);
                x.rule(i, 0);
                due.is("the rule of the first land", x.step(9, 9, i, 1), 2);
            }
        }
        due.is("fewer strivers then", Due.land(x, "s;s"), 2);
        due.is("the third is gone", Due.striver(x, 2, 0), Long.MIN_VALUE);
    }

    // ---- RULES

    /** Every way in which a text that can go on does so, sign by sign: the oracle has the grammar as it is told. */
    @Says(promise = 4, words = "RULES (4 at most) are TEXTS: CLAUSES with ; between, one at least: y, : , perhaps CONDITION ?, then SUM. "
            + "CONDITION: TRUTHS with | between; TRUTH: UNITS with & between; UNIT: ! UNIT, ( CONDITION ), or SUM, one of = < >, SUM.")
    static void everyShortRule(Due due) {
        List<String> texts = new ArrayList<>();
        texts.add("");
        for (int from = 0; from < texts.size(); from++) {
            for (char sign : SIGNS.toCharArray()) {
                String text = texts.get(from) + sign;
                int want = oracleFault(text);
                due.is("fault(1) of " + text, Due.fault(text, 1), want);
                if ((want == Due.NONE || want == text.length()) && text.length() < 8) {
                    texts.add(text);
                }
            }
        }
    }

    private static int oracleFault(String text) {
        Oracle oracle = new Oracle();
        for (char sign : text.toCharArray()) {
            oracle.feed(sign, 0, 0, 0, 0);
        }
        return oracle.fault(1);
    }

    /** The steps in the first second over a track of 90 till a dusk of 50, of one who runs by this RULE. */
    private static int worth(String rule) {
        SecondHas x = Due.of("sp9;s", rule);
        x.rule(0, 0);
        return x.step(90, 50, 0, 1);
    }

    private static int joined(char sign, int left, int right) {
        switch (sign) {
            case '+':
                return left + right;
            case '-':
                return left - right;
            case '*':
                return left * right;
            default:
                return right == 0 ? 0 : left / right;
        }
    }

    /** What numbers with signs between give: first all * and / from the left, then all + and - from the left. */
    private static int sum(int[] numbers, char[] signs) {
        int sum = 0;
        char open = '+';
        int term = numbers[0];
        for (int i = 0; i < signs.length; i++) {
            if (signs[i] == '*' || signs[i] == '/') {
                term = joined(signs[i], term, numbers[i + 1]);
            } else {
                sum = joined(open, sum, term);
                open = signs[i];
                term = numbers[i + 1];
            }
        }
        return joined(open, sum, term);
    }

    private static void sumIs(Due due, String text, int value) {
        String want = value < 0 ? "0-" + -value : String.valueOf(value);
        due.is(text + " is " + value, worth("y:" + text + "=" + want + "?3;y:4"), 3);
    }

    @Says(promise = 9, words = "SUM: TERMS with + or - between; TERM: ATOMS with * or / between; ATOM: a number (1 to 4 digits), ")
    static void everySumOfFourNumbers(Due due) {
        char[] four = {'+', '-', '*', '/'};
        for (int signs = 0; signs < 64; signs++) {
            char[] of = {four[signs % 4], four[signs / 4 % 4], four[signs / 16]};
            for (int[] numbers : new int[][] {{7, 2, 3, 5}, {1, 9, 4, 2}, {0, 6, 0, 8}, {20, 3, 2, 7}}) {
                String text = numbers[0] + "" + of[0] + numbers[1] + of[1] + numbers[2] + of[2] + numbers[3];
                sumIs(due, text, sum(numbers, of));
            }
        }
    }

    @Says(promise = 9, words = ", a letter (d a b o l t), [ SUM ].")
    static void lettersAndSumsWithin(Due due) {
        String[] letters = {"d", "a", "b", "o", "l", "t"};
        int[] values = {90, 0, 0, 0, 50, 0};
        char[] four = {'+', '-', '*', '/'};
        for (int i = 0; i < 6; i++) {
            sumIs(due, letters[i], values[i]);
            for (char sign : four) {
                sumIs(due, "7" + sign + letters[i], joined(sign, 7, values[i]));
                sumIs(due, letters[i] + sign + "7", joined(sign, values[i], 7));
            }
        }
        for (char one : four) {
            for (char other : four) {
                sumIs(due, "9" + one + "[5" + other + "2]", joined(one, 9, joined(other, 5, 2)));
                sumIs(due, "[9" + one + "5]" + other + "2", joined(other, joined(one, 9, 5), 2));
            }
        }
    }

    @Says(promise = 9, words = "WORTH of a RULE: the SUM of the first CLAUSE whose CONDITION holds (or has none), 0 without.")
    static void everyRuleOfThreeClauses(Due due) {
        String[] fronts = {"", "1=1?", "1=2?", "!(1<2)?", "t>0|l=50?"};
        for (int rule = 0; rule < 125; rule++) {
            int[] of = {rule % 5, rule / 5 % 5, rule / 25};
            int want = 0;
            StringBuilder text = new StringBuilder();
            for (int i = 2; i >= 0; i--) {
                boolean holds = of[i] != 2 && of[i] != 3;
                want = holds ? i + 2 : want;
                text.insert(0, (i == 0 ? "y:" : ";y:") + fronts[of[i]] + (i + 2));
            }
            due.is(text.toString(), worth(text.toString()), want);
        }
    }
}
