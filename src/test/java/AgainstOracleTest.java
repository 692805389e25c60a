import java.util.Random;

/** Runs of calls drawn by fixed seeds on SecondHas and on the Oracle: all promises, the answers must be the same. */
public final class AgainstOracleTest {
    private static final int[] WILD = {Integer.MIN_VALUE, -1000000, -7, -2, -1, 0, 1, 2, 3, 4, 5, 6, 7, 10, 60, 61, 99,
        100, 1000000, Integer.MAX_VALUE};

    private final Due due = new Due();
    private final Random random;
    private final Texts texts;
    private SecondHas x;
    private Oracle y;

    private AgainstOracleTest(long seed) {
        random = new Random(seed);
        texts = new Texts(random);
    }

    public static void main(String[] args) {
        int runs = args.length > 0 ? Integer.parseInt(args[0]) : 1500;
        long seed = args.length > 1 ? Long.parseLong(args[1]) : 20261118L;
        AgainstOracleTest test = new AgainstOracleTest(seed);
        test.faults(4 * runs);
        for (int run = 0; run < runs; run++) {
            test.oneRun();
        }
        test.due.end("AgainstOracleTest");
    }

    private int under(int n) {
        return random.nextInt(n);
    }

    private void faults(int many) {
        for (int i = 0; i < many; i++) {
            x = new SecondHas();
            y = new Oracle();
            String text = under(2) == 0 ? texts.land() : texts.rule();
            tell(under(4) == 0 ? text : texts.spoilt(text));
            due.is("fault(0) of " + text, x.fault(0), y.fault(0));
            due.is("fault(1) of " + text, x.fault(1), y.fault(1));
        }
    }

    private void tell(String text) {
        boolean cut = x.end(0);
        due.is("end(0)", cut, y.end(0));
        for (int from = 0; from < text.length() && from < 180; from += 20) {
            int[] five = new int[5];
            for (int i = 0; i < 20 && from + i < text.length(); i++) {
                five[i / 4] |= (text.charAt(from + i) & 255) << (24 - 8 * (i % 4));
            }
            due.is("feed", x.feed(five[0], five[1], five[2], five[3], five[4]),
                    y.feed(five[0], five[1], five[2], five[3], five[4]));
        }
    }

    private void oneRun() {
        x = new SecondHas();
        y = new Oracle();
        for (int i = under(5); i > 0; i--) {
            tell(texts.rule());
            due.is("text(1)", x.text(1), y.text(1));
        }
        if (under(20) > 0) {
            tell(texts.land());
            due.is("text(0)", x.text(0), y.text(0));
        }
        for (int i = 0; i < y.count(0) && y.count(1) > 0; i++) {
            int rule = under(y.count(1) + 1) - 1;
            due.is("rule", x.rule(i, rule), y.rule(i, rule));
        }
        for (int i = 0; i < 80; i++) {
            call(under(46));
        }
    }

    /** A number that is sound as a rule. */
    private int upTo(int low, int high) {
        return under(25) == 0 ? WILD[under(WILD.length)] : low + under(high - low + 1);
    }

    private int striver() {
        return upTo(0, Math.max(0, y.count(0) - 1));
    }

    private int row() {
        if (under(15) == 0) {
            return under(3) == 0 ? WILD[under(WILD.length)] : under(10000000);
        }
        int row = 0;
        for (int i = 0; i < y.count(0); i++) {
            row = 10 * row + under(Math.max(0, y.law(4)) + 1);
        }
        return row;
    }

    private int some() {
        return upTo(1, (1 << Math.max(1, y.count(0))) - 1);
    }

    /** Rows of all, where there are many, would take the Oracle long. */
    private boolean tooMany() {
        return y.count(0) == 4 && y.law(4) > 4;
    }

    private void call(int which) {
        if (which < 12) {
            callOfLand(which);
        } else if (which < 21) {
            callOfRace(which);
        } else if (which < 33) {
            callOfBids(which);
        } else {
            callOfBook(which);
        }
    }

    private void callOfLand(int which) {
        int a = striver();
        int b = upTo(0, 4);
        int v = upTo(0, under(2) == 0 ? 3 : 9);
        switch (which) {
            case 0:
                due.is("striver", Due.striver(x, a, b), oracleStriver(a, b));
                break;
            case 1:
                due.is("law " + b, x.law(b), y.law(b));
                break;
            case 2: case 3: case 4:
                due.is("change " + b + " " + v, x.change(b, v), y.change(b, v));
                break;
            case 5: case 6:
                due.is("rule " + a + " " + v, x.rule(a, v - 1), y.rule(a, v - 1));
                break;
            case 7:
                due.is("image", x.image(), y.image());
                break;
            case 8:
                due.is("back", x.back(), y.back());
                break;
            case 9:
                due.is("count " + b, x.count(b), y.count(b));
                break;
            case 10:
                due.is("fault " + b, x.fault(b), y.fault(b));
                due.is("end " + v, x.end(v), y.end(v));
                break;
            default:
                newText();
        }
    }

    private long oracleStriver(int a, int b) {
        try {
            return y.striver(a, b);
        } catch (java.util.NoSuchElementException e) {
            return Long.MIN_VALUE;
        }
    }

    private void newText() {
        int sort = under(3);
        if (under(5) > 0) {
            return;
        }
        String text = under(2) == 0 ? texts.land() : texts.rule();
        tell(under(3) == 0 ? texts.spoilt(text) : text);
        due.is("text " + sort + " " + text, x.text(sort), y.text(sort));
    }

    private void callOfRace(int which) {
        int track = upTo(1, under(3) == 0 ? 99 : 12);
        int dusk = upTo(1, under(3) == 0 ? 99 : 12);
        int a = striver();
        int b = upTo(0, 2);
        String of = " " + track + " " + dusk + " " + a;
        switch (which) {
            case 12: case 13:
                due.is("race" + of + " " + b, x.race(track, dusk, b), y.race(track, dusk, b));
                break;
            case 14:
                due.is("came" + of, x.came(track, dusk, a), y.came(track, dusk, a));
                break;
            case 15: case 16:
                int second = upTo(0, Math.max(0, Math.min(99, dusk)));
                due.is("step" + of + " " + second, x.step(track, dusk, a, second), y.step(track, dusk, a, second));
                break;
            case 17:
                due.is("without" + of, x.without(track, dusk, a), y.without(track, dusk, a));
                break;
            case 18:
                due.is("choice" + of, x.choice(track, dusk, a), y.choice(track, dusk, a));
                break;
            case 19:
                if (under(4) == 0) {
                    due.is("latest" + of, x.latest(track), y.latest(track));
                }
                break;
            default:
                due.is("medal" + of, x.medal(track, dusk, a), y.medal(track, dusk, a));
        }
    }

    private void callOfBids(int which) {
        int row = row();
        int a = striver();
        int b = upTo(0, 3);
        int some = some();
        String of = " " + row + " " + a + " " + b + " " + some;
        switch (which) {
            case 21: case 22:
                due.is("bids" + of, x.bids(row, b), y.bids(row, b));
                break;
            case 23:
                due.is("gain" + of, x.gain(row, a), y.gain(row, a));
                break;
            case 24: case 25:
                int i = upTo(-1, 6);
                if (!tooMany()) {
                    due.is("rests " + i, x.rests(i), y.rests(i));
                }
                break;
            case 26:
                if (!tooMany()) {
                    due.is("seller " + b, x.seller(b), y.seller(b));
                }
                break;
            case 27:
                due.is("cure" + of, x.cure(row, b), y.cure(row, b));
                break;
            case 28:
                due.is("firm" + of, x.firm(row, some), y.firm(row, some));
                break;
            case 29:
                due.is("together" + of, x.together(row, some, b), y.together(row, some, b));
                break;
            case 30:
                due.is("treason" + of, x.treason(row, some), y.treason(row, some));
                break;
            case 31:
                due.is("near" + of, x.near(row, a), y.near(row, a));
                break;
            default:
                due.is("changes" + of, x.changes(row), y.changes(row));
        }
    }

    private void callOfBook(int which) {
        int row = row();
        int a = striver();
        int b = striver();
        int turns = upTo(1, under(3) == 0 ? 60 : 9);
        switch (which) {
            case 33:
                due.is("waits " + turns + " " + a, x.waits(turns, a), y.waits(turns, a));
                break;
            case 34:
                if (under(4) == 0) {
                    due.is("spur " + turns, x.spur(turns), y.spur(turns));
                }
                break;
            case 35:
                int what = upTo(0, 2);
                due.is("rounds " + what, x.rounds(what), y.rounds(what));
                break;
            case 36:
                due.is("honour " + row, x.honour(row), y.honour(row));
                break;
            case 37:
                long seed = under(3) == 0 ? under(100) - 50 : random.nextLong();
                int n = upTo(0, under(2) == 0 ? 6 : 41);
                due.is("years " + n + " " + seed, x.years(n, seed), y.years(n, seed));
                break;
            case 38:
                due.is("undo", x.undo(), y.undo());
                break;
            case 39:
                due.is("often " + a, x.often(a), y.often(a));
                break;
            case 40:
                due.is("made " + a + " " + b, x.made(a, b), y.made(a, b));
                break;
            case 41:
                due.is("pair", x.pair(), y.pair());
                break;
            case 42:
                due.is("sum " + a, x.sum(a), y.sum(a));
                break;
            default:
                callOfHope(which, a);
        }
    }

    private void callOfHope(int which, int a) {
        int bid = upTo(0, Math.max(0, y.law(4)));
        int what = upTo(0, 1);
        switch (which) {
            case 43:
                due.is("hope " + a + " " + bid, x.hope(a, bid, what), y.hope(a, bid, what));
                break;
            case 44:
                if (!tooMany()) {
                    due.is("bold " + a, x.bold(a), y.bold(a));
                }
                break;
            default:
                due.is("voids", x.voids(), y.voids());
        }
    }
}
