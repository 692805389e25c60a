/** Promises 24 to 30 and 40 to 42, each sentence that names an edge: the book, images, count. */
public final class EdgeBookTest {
    public static void main(String[] args) throws ReflectiveOperationException {
        Sentences.run(EdgeBookTest.class);
    }

    // ---- 24

    @Says(promise = 24, words = "BIDS that were made come to the book: how many there are.")
    static void upTo40(Due due) {
        SecondHas x = Due.of("s;s;lm9");
        for (int i = 1; i <= 40; i++) {
            due.is("honour", x.honour(i), i);
            due.is("in the book", x.count(3), i);
        }
        due.is("one more", x.honour(1), Due.NONE);
        due.is("undo", x.undo(), 39);
        due.is("room for one", x.honour(1), 40);
        due.is("one more", x.honour(1), Due.NONE);
    }

    @Says(promise = 24, words = "NONE: no such row, no LAND, there are 40.")
    static void honourOfNoRow(Due due) {
        for (int row : States.NO_ROW) {
            Watch.same(due, "row " + row, States::three, x -> x.honour(row), Due.NONE);
        }
        Watch.same(due, "above MOST as it is", EdgeBookTest::lowMost, x -> x.honour(4), Due.NONE);
        SecondHas x = lowMost();
        due.is("at MOST as it is", x.honour(333), 3);
        Watch.same(due, "no land", States::none, y -> y.honour(0), Due.NONE);
    }

    /** A book with rows above MOST. */
    private static SecondHas lowMost() {
        SecondHas x = Due.of("sw50;sw60;sw70;lm9");
        x.honour(987);
        x.honour(778);
        x.change(4, 3);
        return x;
    }

    @Says(promise = 24, words = "NONE: no such row, no LAND, there are 40.")
    static void thereAre40(Due due) {
        Watch.same(due, "one more", States::fullBook, x -> x.honour(0), Due.NONE);
        Watch.same(due, "no such row", States::fullBook, x -> x.honour(1000), Due.NONE);
        due.is("40", States.fullBook().count(3), 40);
    }

    // ---- 25

    @Says(promise = 25, words = "n rows (1 .. 40) drawn by a seed")
    static void howManyYears(Due due) {
        for (int has = 0; has <= 40; has++) {
            for (int n : new int[] {-1, 0, 1, 39 - has, 40 - has, 41 - has, 40, 41}) {
                SecondHas x = Due.of("s;s");
                for (int i = 0; i < has; i++) {
                    x.honour(i % 6);
                }
                boolean room = n >= 1 && n <= 40 - has;
                due.is(n + " behind " + has, x.years(n, 7), room ? has + n : Due.NONE);
                due.is("in the book", x.count(3), room ? has + n : has);
            }
        }
    }

    @Says(promise = 25, words = "NONE: no LAND, more than there is room for.")
    static void yearsRefused(Due due) {
        for (int n : new int[] {Integer.MIN_VALUE, -40, -1, 0, 37, 38, 40, 41, Integer.MAX_VALUE - 3, Integer.MAX_VALUE}) {
            Watch.same(due, "years " + n, States::three, x -> x.years(n, 1), Due.NONE);
        }
        Watch.same(due, "no room at all", States::fullBook, x -> x.years(1, 1), Due.NONE);
        Watch.same(due, "none to a full one", States::fullBook, x -> x.years(0, 1), Due.NONE);
        Watch.same(due, "no land", States::none, x -> x.years(1, 1), Due.NONE);
        due.is("just as much as there is room", States.three().years(36, 1), 40);
    }

    @Says(promise = 25, words = "x, at first the seed, becomes x times 6364136223846793005 and 1442695040888963407 (64 bits, going round); a draw of m: (x shifted right by 33, without sign) modulo m.")
    static void drawsByHand(Due due) {
        long[] seeds = {0, 1, -1, Long.MAX_VALUE, Long.MIN_VALUE, -1442695040888963407L, 4711, -4711};
        int[][] three = {{747, 651, 454, 932, 250, 258}, {436, 45, 29, 632, 204, 205}, {837, 247, 570, 232, 88, 12},
            {493, 603, 134, 896, 444, 676}, {183, 97, 898, 396, 696, 614}, {7, 880, 150, 641, 880, 736},
            {380, 887, 472, 482, 837, 816}, {994, 215, 235, 480, 455, 491}};
        int[][] six = {{747651, 454932, 250258}, {436045, 29632, 204205}, {837247, 570232, 88012}, {493603, 134896, 444676},
            {183097, 898396, 696614}, {7880, 150641, 880736}, {380887, 472482, 837816}, {994215, 235480, 455491}};
        int[][] two = {{24, 21, 1, 40}, {43, 10, 40, 2}, {33, 22, 42, 2}, {44, 31, 3, 13}, {13, 30, 42, 34}, {0, 23, 30, 10},
            {33, 3, 32, 42}, {44, 42, 10, 23}};
        for (int i = 0; i < seeds.length; i++) {
            drawn(due, "s;s;s;lm9", seeds[i], three[i]);
            drawn(due, "s;s;s;s;s;s;lm9", seeds[i], six[i]);
            drawn(due, "s;s;lm4", seeds[i], two[i]);
            drawn(due, "s;s;s;s;lm0", seeds[i], new int[] {0, 0, 0, 0, 0});
        }
    }

    /** The book of years is held against the rows told, from the latest to the first, at each place. */
    private static void drawn(Due due, String land, long seed, int[] rows) {
        SecondHas x = Due.of(land);
        SecondHas y = Due.of(land);
        due.is("years of " + seed, x.years(rows.length, seed), rows.length);
        for (int row : rows) {
            y.honour(row);
        }
        for (int left = rows.length - 1; left >= 0; left--) {
            for (int place = 1; place <= x.count(0); place++) {
                x.change(0, place);
                y.change(0, place);
                for (int i = 0; i < x.count(0); i++) {
                    due.is("often " + i, x.often(i), y.often(i));
                    due.is("sum " + i, x.sum(i), y.sum(i));
                }
            }
            due.is("undo", x.undo(), left);
            y.undo();
        }
    }

    @Says(promise = 25, words = "each STRIVER by numbers a draw of MOST and 1; they come to the book.")
    static void drawsByMostAsItIs(Due due) {
        SecondHas x = Due.of("sw50;sw50;lr1m9");
        x.change(4, 4);
        due.is("years", x.years(4, 0), 4);
        due.is("24, 21, 1, 40: 0 is ahead twice", x.often(0), 2);
        due.is("its gains", x.sum(0), 50 - 2 + 50 - 4);
        due.is("the others' gains", x.sum(1), 50 - 4 + 50 - 1);
        due.is("the seed begins anew", x.years(1, 0), 5);
        due.is("24 again", x.sum(1), 50 - 4 + 50 - 1 + 50 - 4);
    }

    // ---- 26

    @Says(promise = 26, words = "The latest is UNDONE: how many there are. NONE: none.")
    static void undoToTheLast(Due due) {
        SecondHas x = States.fullBook();
        for (int left = 39; left >= 0; left--) {
            due.is("undo", x.undo(), left);
            due.is("in the book", x.count(3), left);
        }
        due.is("none", x.undo(), Due.NONE);
        Watch.same(due, "an empty book", () -> Due.of("s;s"), y -> y.undo(), Due.NONE);
        Watch.same(due, "no land", States::none, y -> y.undo(), Due.NONE);
        Watch.same(due, "a new one", SecondHas::new, y -> y.undo(), Due.NONE);
    }

    @Says(promise = 26, words = "The latest is UNDONE: how many there are. NONE: none.")
    static void onlyTheLatest(Due due) {
        SecondHas x = Due.of("s;s;s");
        x.honour(321);
        x.honour(123);
        due.is("undo", x.undo(), 1);
        due.is("the first row is there", x.made(0, 1), 1);
        due.is("the latest is not", x.made(2, 1), 0);
        x.years(5, 3);
        due.is("one row of years", x.undo(), 5);
        x.undo();
        x.undo();
        x.undo();
        due.is("the first row of years", x.undo(), 1);
        due.is("the first row is there", x.made(0, 1), 1);
    }

    // ---- 27 to 30

    @Says(promise = 27, words = "NONE: no such one.")
    static void oftenRefused(Due due) {
        for (int nobody : States.NOBODY) {
            Watch.same(due, "striver " + nobody, States::three, x -> x.often(nobody), Due.NONE);
        }
        Watch.same(due, "no land", States::none, x -> x.often(0), Due.NONE);
        Watch.same(due, "an empty book", () -> Due.of("s;s"), x -> x.often(0), 0);
        Watch.same(due, "the last of six", States::six, x -> x.often(5), 0);
        Watch.same(due, "no seventh", States::six, x -> x.often(6), Due.NONE);
    }

    @Says(promise = 27, words = "(All by the LAW as it is now, with the bids that were made, also above MOST.)")
    static void rowsAboveMost(Due due) {
        SecondHas x = lowMost();
        due.is("by 8 of 987 and the second 7 of 778", x.often(0) * 100 + x.often(1) * 10 + x.often(2), 110);
        due.is("gains of 0", x.sum(0), 50 - 7);
        due.is("gains of 1", x.sum(1), 60 - 8);
        due.is("made", x.made(0, 1), 1);
        due.is("made", x.made(2, 0), 1);
        due.is("pair", x.pair(), 1);
        x.change(4, 0);
        due.is("however low MOST is", x.sum(1), 60 - 8);
        x.change(1, 1);
        due.is("nobody may be alike", x.often(0), 0);
        x.change(0, 1);
        due.is("the first", x.often(0) * 100 + x.often(1) * 10 + x.often(2), 101);
        x.change(3, 99);
        due.is("the fee", x.sum(0), 50 - 9 - 99);
        x.change(2, 2);
        due.is("the next behind", x.sum(0), 50 - 8 - 99);
        x.change(0, 6);
        due.is("nobody has it", x.often(0) + x.often(1) + x.often(2), 0);
        due.is("the fee alone", x.sum(2), -99);
        due.is("nobody was made it", x.pair(), Due.NONE);
    }

    @Says(promise = 27, words = "how often one had it")
    static void oftenOf40(Due due) {
        SecondHas x = Due.of("sw99;sw99;lm9");
        for (int i = 0; i < 40; i++) {
            x.honour(0);
        }
        due.is("all", x.often(1), 40);
        due.is("none", x.often(0), 0);
        due.is("their sum", x.sum(1), 3960);
        due.is("made", x.made(0, 1), 40);
        due.is("pair", x.pair(), 1);
    }

    @Says(promise = 28, words = "NONE: no such ones, alike.")
    static void madeRefused(Due due) {
        for (int nobody : States.NOBODY) {
            Watch.same(due, "first " + nobody, States::three, x -> x.made(nobody, 1), Due.NONE);
            Watch.same(due, "has " + nobody, States::three, x -> x.made(1, nobody), Due.NONE);
            Watch.same(due, "both " + nobody, States::three, x -> x.made(nobody, nobody), Due.NONE);
        }
        for (int i = 0; i < 3; i++) {
            int one = i;
            Watch.same(due, "alike " + i, States::three, x -> x.made(one, one), Due.NONE);
        }
        Watch.same(due, "no land", States::none, x -> x.made(0, 1), Due.NONE);
        Watch.same(due, "an empty book", () -> Due.of("s;s"), x -> x.made(0, 1), 0);
    }

    @Says(promise = 28, words = "how often one had it when another one was the (one) FIRST")
    static void theOneFirst(Due due) {
        SecondHas x = Due.of("s;s;s;s;lr3m9");
        x.honour(9950);
        due.is("the lower of two is first", x.made(0, 2), 1);
        due.is("not the other", x.made(1, 2), 0);
        x.change(1, 1);
        due.is("two are first: nobody made it", x.made(0, 2), 0);
        due.is("two are first: nobody made it", x.made(1, 2), 0);
        due.is("though one had it", x.often(2), 1);
        due.is("never", x.pair(), Due.NONE);
        x.change(0, 1);
        x.honour(9876);
        due.is("the first has it itself", x.often(0), 1);
        for (int i = 1; i < 4; i++) {
            due.is("that counts for no two", x.made(0, i) + x.made(i, 0), 0);
        }
        due.is("never", x.pair(), Due.NONE);
    }

    @Says(promise = 29, words = "(10 times who was FIRST and who had it; of several the least; none: never)")
    static void theLeastOfSeveralPairs(Due due) {
        for (int first = 0; first < 6; first++) {
            for (int has = 0; has < 6; has++) {
                if (first != has) {
                    SecondHas x = Due.of("s;s;s;s;s;s;lm9");
                    x.honour(rowOf(first, has));
                    due.is("pair", x.pair(), 10 * first + has);
                    x.honour(rowOf(5, 4));
                    due.is("the least of two", x.pair(), 10 * first + has);
                    x.honour(rowOf(0, 1));
                    x.honour(rowOf(0, 1));
                    due.is("the most often", x.pair(), 1);
                    x.undo();
                    x.undo();
                    x.honour(rowOf(5, 4));
                    due.is("the most often", x.pair(), 54);
                }
            }
        }
    }

    private static int rowOf(int first, int has) {
        int row = 0;
        for (int i = 0; i < 6; i++) {
            row = 10 * row + (i == first ? 9 : i == has ? 8 : 0);
        }
        return row;
    }

    @Says(promise = 29, words = "NONE: never, no LAND.")
    static void oneFirstAndNobodyHasIt(Due due) {
        SecondHas x = Due.of("s;s;s;lt1m9");
        x.honour(955);
        x.honour(595);
        x.honour(559);
        due.is("two are alike behind the first", x.pair(), Due.NONE);
        for (int i = 0; i < 3; i++) {
            due.is("made", x.made(i, (i + 1) % 3), 0);
            due.is("made", x.made(i, (i + 2) % 3), 0);
        }
        x.change(1, 0);
        due.is("with ties 0 each made one", x.pair(), 1);
        x.change(0, 4);
        due.is("no such place", x.pair(), Due.NONE);
    }

    @Says(promise = 29, words = "NONE: never, no LAND.")
    static void pairRefused(Due due) {
        Watch.same(due, "no land", States::none, x -> x.pair(), Due.NONE);
        Watch.same(due, "a new one", SecondHas::new, x -> x.pair(), Due.NONE);
        Watch.same(due, "an empty book", () -> Due.of("s;s"), x -> x.pair(), Due.NONE);
        Watch.same(due, "changes nothing", States::three, x -> x.pair(), 1);
        SecondHas x = States.three();
        Due.land(x, "s;s;s");
        due.is("another land", x.pair(), Due.NONE);
    }

    @Says(promise = 30, words = "HIDDEN: no such one.")
    static void sumRefused(Due due) {
        for (int nobody : States.NOBODY) {
            Watch.same(due, "striver " + nobody, States::three, x -> x.sum(nobody), Due.HIDDEN);
        }
        Watch.same(due, "no land", States::none, x -> x.sum(0), Due.HIDDEN);
        Watch.same(due, "an empty book", () -> Due.of("s;s"), x -> x.sum(1), 0);
        Watch.same(due, "no seventh", States::six, x -> x.sum(6), Due.HIDDEN);
        Watch.same(due, "changes nothing", States::six, x -> x.sum(5), 0);
    }

    @Says(promise = 30, words = "SUM of GAINS of one.")
    static void theLeastAndTheGreatestSum(Due due) {
        SecondHas x = Due.of("sw0;sw99;lr1f99m9");
        for (int i = 0; i < 40; i++) {
            x.honour(90);
        }
        due.is("the least", x.sum(0), -40 * 108);
        due.is("nothing", x.sum(1), 0);
        x.change(0, 2);
        x.change(3, 0);
        due.is("the greatest", x.sum(1), 40 * 99);
        due.is("nothing", x.sum(0), 0);
    }

    // ---- 40 and 41

    @Says(promise = 40, words = "An IMAGE (instead of the one ahead): how many are in the book. NONE: no LAND.")
    static void imagesOfBooks(Due due) {
        due.is("an empty book", Due.of("s;s").image(), 0);
        due.is("a full book", States.fullBook().image(), 40);
        Watch.same(due, "no land", States::none, x -> x.image(), Due.NONE);
        Watch.same(due, "a new one", SecondHas::new, x -> x.image(), Due.NONE);
        SecondHas x = States.three();
        due.is("instead of the one ahead", x.image(), 4);
        x.undo();
        x.undo();
        due.is("the newer one", x.back(), 4);
        due.is("its fee", x.law(3), 7);
        due.is("its rule", Due.striver(x, 2, 4), 2);
    }

    @Says(promise = 41, words = "An IMAGE keeps the book, RULES of STRIVERS, the LAW as changed; BACK: they are so again.")
    static void theyAreSoAgain(Due due) {
        SecondHas x = States.fullBook();
        x.image();
        for (int what = 0; what < 5; what++) {
            x.change(what, 1);
        }
        for (int left = 39; left >= 0; left--) {
            x.undo();
        }
        due.is("nothing left", x.undo(), Due.NONE);
        due.is("other rows", x.years(40, 1), 40);
        due.is("back", x.back(), 40);
        int[] law = {2, 0, 0, 0, 9};
        for (int what = 0; what < 5; what++) {
            due.is("law", x.law(what), law[what]);
        }
        due.is("no room again", x.honour(0), Due.NONE);
        SecondHas y = States.fullBook();
        y.image();
        due.is("as if nothing had been", Watch.all(x).equals(Watch.all(y)), true);
    }

    @Says(promise = 41, words = "An IMAGE keeps the book, RULES of STRIVERS, the LAW as changed; BACK: they are so again.")
    static void theRuleOfEachStriver(Due due) {
        for (int many = 2; many <= 6; many++) {
            for (int from = 0; from < 5; from++) {
                SecondHas x = Due.of("s;".repeat(many - 1) + "s", "y:1", "y:2", "y:3", "y:0");
                for (int i = 0; i < many; i++) {
                    x.rule(i, (from + i) % 5 - 1);
                }
                x.image();
                for (int i = 0; i < many; i++) {
                    x.rule(i, (from + i + 2) % 5 - 1);
                }
                due.is("back", x.back(), 0);
                for (int i = 0; i < many; i++) {
                    due.is(i + " of " + many, Due.striver(x, i, 4), (from + i) % 5 - 1);
                    due.is("its steps", x.step(9, 9, i, 1), new int[] {0, 1, 2, 3, 0}[(from + i) % 5]);
                }
            }
        }
    }

    @Says(promise = 41, words = "BACK: they are so again.")
    static void whatIsNotOfAnImage(Due due) {
        SecondHas x = States.three();
        x.end(0);
        Due.feed(x, "y:5");
        due.is("a fourth rule", x.text(1), 3);
        Due.feed(x, "abc");
        x.rule(0, 3);
        due.is("back", x.back(), 3);
        due.is("the tape stays", x.count(2), 3);
        due.is("rules stay", x.count(1), 4);
        due.is("the rule of a striver is as it was", Due.striver(x, 0, 4), 0);
        due.is("the rule is there", x.rule(0, 3), true);
        due.is("back again", x.back(), 3);
        due.is("the image stays as it was", Due.striver(x, 0, 4), 0);
        due.is("its fee", x.law(3), 2);
        due.is("its ties", x.law(1), 0);
        x.honour(111);
        due.is("a later row is not of the image", x.back(), 3);
    }

    @Says(promise = 41, words = "NONE: no IMAGE of this LAND.")
    static void backRefused(Due due) {
        Watch.same(due, "no image", States::plain, x -> x.back(), Due.NONE);
        Watch.same(due, "no land", States::none, x -> x.back(), Due.NONE);
        Watch.same(due, "a new one", SecondHas::new, x -> x.back(), Due.NONE);
        Watch.same(due, "an image of another land", EdgeBookTest::anotherLand, x -> x.back(), Due.NONE);
        SecondHas x = States.three();
        due.is("a text that is refused", x.text(0), Due.NONE);
        due.is("leaves the image", x.back(), 3);
    }

    private static SecondHas anotherLand() {
        SecondHas x = States.three();
        Due.land(x, "s;s;s;lr1");
        x.honour(123);
        x.rule(1, 1);
        return x;
    }

    // ---- 42

    @Says(promise = 42, words = "0 STRIVERS, 1 RULES, 2 bytes of the TAPE, 3 how many are in the book. HIDDEN for others.")
    static void countsOfAll(Due due) {
        int[] want = {3, 3, 5, 4};
        for (int what = 0; what < 4; what++) {
            int one = what;
            Watch.same(due, "count " + what, States::three, x -> x.count(one), want[one]);
        }
        for (int what : new int[] {Integer.MIN_VALUE, -1000000, -2, -1, 4, 5, Integer.MAX_VALUE}) {
            Watch.same(due, "count " + what, States::three, x -> x.count(what), Due.HIDDEN);
            Watch.same(due, "count " + what, States::none, x -> x.count(what), Due.HIDDEN);
        }
        due.is("a full tape", States.fullTape().count(2), 160);
        due.is("four rules", States.fourRules().count(1), 4);
        due.is("six strivers", States.six().count(0), 6);
        due.is("a full book", States.fullBook().count(3), 40);
    }

    @Says(promise = 42, words = "An object is used for at most 512 calls after it has been made")
    static void the512thCall(Due due) {
        SecondHas x = new SecondHas();
        x.feed(0x733B733B, 0x73000000, 0, 0, 0);
        x.text(0);
        for (int call = 3; call <= 509; call += 3) {
            due.is("honour", x.honour(321), 1);
            due.is("often", x.often(1), 1);
            due.is("undo", x.undo(), 0);
        }
        due.is("the 510th", x.years(40, 1), 40);
        due.is("the 511th", x.image(), 40);
        due.is("the 512th", x.count(0), 3);
    }
}
