/** Objects in states from which what is refused is asked for. */
final class States {
    /** Numbers that are no STRIVER of three. */
    static final int[] NOBODY = {Integer.MIN_VALUE, -2, -1, 3, 4, 6, Integer.MAX_VALUE};
    /** Numbers that are no row of three with a MOST of 5. */
    static final int[] NO_ROW = {Integer.MIN_VALUE, -321, -1, 6, 9, 60, 600, 556, 565, 655, 999, 1000, 1321, 10000, 1000000,
        Integer.MAX_VALUE};

    /** No LAND, but RULES, and a sound LAND on the tape. */
    static SecondHas none() {
        SecondHas x = new SecondHas();
        Due.rule(x, "y:d");
        Due.rule(x, "y:1");
        Due.feed(x, "sp4;s");
        return x;
    }

    /** Three STRIVERS with RULES, a LAW that was changed, a book, an image that is another state, a RULE on the tape. */
    static SecondHas three() {
        SecondHas x = Due.of("sp3w20;sp2w15b4k2;sp1w10k1;lf2", "y:d", "y:1", "y:a");
        x.rule(0, 0);
        x.rule(1, 0);
        x.rule(2, 1);
        x.honour(321);
        x.honour(13);
        x.honour(222);
        x.image();
        x.change(3, 7);
        x.change(1, 1);
        x.rule(2, 2);
        x.honour(540);
        Due.feed(x, "y:t+1");
        return x;
    }

    /** As three, but without an image. */
    static SecondHas plain() {
        SecondHas x = Due.of("sp3w20;sp2w15;sp1w10", "y:d");
        x.rule(0, 0);
        x.rule(1, 0);
        x.honour(321);
        Due.feed(x, "s;sp9");
        return x;
    }

    static SecondHas five() {
        return many("s;s;s;s;s;lm3", 12333);
    }

    static SecondHas six() {
        return many("s;s;s;s;s;s;lm3", 123332);
    }

    private static SecondHas many(String land, int row) {
        SecondHas x = Due.of(land, "y:1");
        for (int i = 0; i < x.count(0); i++) {
            x.rule(i, 0);
        }
        x.honour(row);
        x.image();
        Due.feed(x, "s;s");
        return x;
    }

    /** Four RULES, and a sound fifth one on the tape. */
    static SecondHas fourRules() {
        SecondHas x = Due.of("s;s", "y:1", "y:2", "y:3", "y:0");
        x.rule(0, 3);
        Due.feed(x, "y:4");
        return x;
    }

    /** A book of 40. */
    static SecondHas fullBook() {
        SecondHas x = Due.of("sw20;sw30;sw40;lm9");
        for (int i = 0; i < 40; i++) {
            x.honour(100 + 7 * i);
        }
        return x;
    }

    /** A tape of 160 bytes that is a sound LAND. */
    static SecondHas fullTape() {
        SecondHas x = new SecondHas();
        Due.feed(x, "sp1;sw2" + " ".repeat(153));
        return x;
    }
}
