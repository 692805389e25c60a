/** Promises 24 to 30 and 40 to 42: honour, years, undo, often, made, pair, sum, image, back, count. */
public final class BookTest {
    public static void main(String[] args) {
        Due due = new Due();
        honours(due);
        byTheLawAsItIs(due);
        pairs(due);
        years(due);
        images(due);
        counts(due);
        noLand(due);
        due.end("BookTest");
    }

    private static void honours(Due due) {
        SecondHas x = Due.of("sw20;sw15;sw10;lf2");
        due.is("the first row", x.honour(321), 1);
        due.is("the same again", x.honour(321), 2);
        due.is("another", x.honour(13), 3);
        due.is("no such row", x.honour(6), Due.NONE);
        due.is("no such row", x.honour(-1), Due.NONE);
        due.is("no such row", x.honour(1000), Due.NONE);
        due.is("in the book", x.count(3), 3);
        due.is("often 0", x.often(0), 0);
        due.is("often 1", x.often(1), 3);
        due.is("often 2", x.often(2), 0);
        due.is("sum 0", x.sum(0), -4);
        due.is("sum 1", x.sum(1), 13 + 13 + 14);
        due.is("sum 2", x.sum(2), -2);
        due.is("made 0 1", x.made(0, 1), 2);
        due.is("made 2 1", x.made(2, 1), 1);
        due.is("made 1 2", x.made(1, 2), 0);
        due.is("made alike", x.made(1, 1), Due.NONE);
        due.is("made -1", x.made(-1, 1), Due.NONE);
        due.is("made 3", x.made(0, 3), Due.NONE);
        due.is("pair", x.pair(), 1);
        due.is("often -1", x.often(-1), Due.NONE);
        due.is("often 3", x.often(3), Due.NONE);
        due.is("sum -1", x.sum(-1), Due.HIDDEN);
        due.is("sum 3", x.sum(3), Due.HIDDEN);
        due.is("undo", x.undo(), 2);
        due.is("made 2 1", x.made(2, 1), 0);
        due.is("undo", x.undo(), 1);
        due.is("undo", x.undo(), 0);
        due.is("undo", x.undo(), Due.NONE);
        due.is("an empty book", x.pair(), Due.NONE);
        due.is("an empty book", x.often(1), 0);
        due.is("an empty book", x.sum(1), 0);
        due.is("an empty book", x.made(0, 1), 0);
        for (int i = 1; i <= 40; i++) {
            due.is("honour", x.honour(100 + i % 6), i);
        }
        due.is("there are 40", x.honour(100), Due.NONE);
        due.is("there are 40", x.count(3), 40);
    }

    private static void byTheLawAsItIs(Due due) {
        SecondHas x = Due.of("sw20;sw20;sw20;lm9");
        x.honour(987);
        x.honour(997);
        due.is("by the law told", x.often(1), 2);
        x.change(4, 3);
        due.is("above MOST they count", x.often(1), 2);
        due.is("above MOST they count", x.sum(1), 20 - 8 + 20 - 9);
        due.is("but none such comes anew", x.honour(987), Due.NONE);
        x.change(0, 1);
        due.is("by another place", x.often(0), 2);
        x.change(0, 3);
        x.change(1, 1);
        due.is("with ties", x.often(2), 2);
        due.is("with ties only the one first counts", x.made(0, 2), 1);
        due.is("with ties only the one first counts", x.made(1, 2), 0);
        x.change(3, 5);
        due.is("fees", x.sum(0), -10);
        due.is("fees", x.sum(1), -5);
    }

    private static void pairs(Due due) {
        SecondHas x = Due.of("s;s;s;lm9");
        x.honour(12);
        x.honour(210);
        due.is("of several the least", x.pair(), 1);
        x.honour(21);
        due.is("of several the least", x.pair(), 1);
        x.honour(12);
        due.is("most often", x.pair(), 21);
        x.change(0, 1);
        due.is("the first has it itself: never", x.pair(), Due.NONE);
        x.change(0, 3);
        due.is("the last", x.pair(), 20);
        x.change(0, 4);
        due.is("nobody has it: never", x.pair(), Due.NONE);
        SecondHas six = Due.of("s;s;s;s;s;s");
        six.honour(45);
        due.is("the greatest pair", six.pair(), 54);
    }

    private static void years(Due due) {
        SecondHas x = Due.of("s;s;s;lm9");
        due.is("none", x.years(0, 1), Due.NONE);
        due.is("below", x.years(-1, 1), Due.NONE);
        due.is("more than 40", x.years(41, 1), Due.NONE);
        due.is("far more", x.years(Integer.MAX_VALUE, 1), Due.NONE);
        due.is("nothing came", x.count(3), 0);
        due.is("39", x.years(39, 5), 39);
        due.is("more than there is room for", x.years(2, 5), Due.NONE);
        due.is("39 still", x.count(3), 39);
        due.is("the last", x.years(1, 5), 40);
        due.is("full", x.years(1, 5), Due.NONE);
        due.is("only the latest row is undone", x.undo(), 39);
        drawn(due, 0L);
        drawn(due, 1L);
        drawn(due, -1L);
        drawn(due, Long.MIN_VALUE);
        drawn(due, 123456789012345L);
    }

    /** The rows drawn, held against the same rows made one by one. */
    private static void drawn(Due due, long seed) {
        SecondHas x = Due.of("sw50;sw60;sw70;s;lm6f1");
        SecondHas y = Due.of("sw50;sw60;sw70;s;lm6f1");
        due.is("years", x.years(12, seed), 12);
        long state = seed;
        for (int i = 0; i < 12; i++) {
            int row = 0;
            for (int j = 0; j < 4; j++) {
                state = state * 6364136223846793005L + 1442695040888963407L;
                row = 10 * row + (int) ((state >>> 33) % 7);
            }
            due.is("honour " + row, y.honour(row), i + 1);
        }
        while (x.count(3) > 0) {
            due.is("pair", x.pair(), y.pair());
            for (int i = 0; i < 4; i++) {
                due.is("often", x.often(i), y.often(i));
                due.is("sum", x.sum(i), y.sum(i));
            }
            due.is("undo", x.undo(), y.undo());
        }
    }

    private static void images(Due due) {
        SecondHas x = Due.of("s;s;s", "y:1", "y:2");
        due.is("no image yet", x.back(), Due.NONE);
        x.honour(123);
        x.rule(0, 0);
        x.change(3, 7);
        due.is("image", x.image(), 1);
        x.honour(321);
        x.rule(0, Due.NONE);
        x.rule(1, 1);
        x.change(3, 9);
        x.change(4, 1);
        due.is("back", x.back(), 1);
        due.is("the book", x.count(3), 1);
        due.is("its row", x.made(2, 1), 1);
        due.is("a rule that was", Due.striver(x, 0, 4), 0);
        due.is("a rule that was not", Due.striver(x, 1, 4), Due.NONE);
        due.is("the fee", x.law(3), 7);
        due.is("most", x.law(4), 5);
        x.undo();
        x.honour(321);
        due.is("back again", x.back(), 1);
        due.is("the row of the image", x.made(2, 1), 1);
        x.undo();
        x.change(0, 1);
        due.is("an image instead of the one ahead", x.image(), 0);
        x.honour(111);
        x.change(0, 3);
        due.is("back to the newer one", x.back(), 0);
        due.is("its place", x.law(0), 1);
        due.is("rules made since stay", Due.rule(x, "y:3"), 2);
        due.is("back", x.back(), 0);
        due.is("rules", x.count(1), 3);
        due.is("a refused land", Due.land(x, "s"), Due.NONE);
        due.is("leaves the image", x.back(), 0);
        due.is("the tape is not of the image", x.count(2), 1);
        due.is("another land", Due.land(x, "s;s;s"), 3);
        due.is("no image of it", x.back(), Due.NONE);
        due.is("its law", x.law(0), 2);
    }

    private static void counts(Due due) {
        SecondHas x = Due.of("s;s;s;s;s", "y:1", "y:2", "y:3");
        x.honour(12345);
        Due.feed(x, "abcdefg");
        due.is("strivers", x.count(0), 5);
        due.is("rules", x.count(1), 3);
        due.is("bytes", x.count(2), 7);
        due.is("book", x.count(3), 1);
        due.is("what 4", x.count(4), Due.HIDDEN);
        due.is("what -1", x.count(-1), Due.HIDDEN);
        due.is("what least", x.count(Integer.MIN_VALUE), Due.HIDDEN);
    }

    private static void noLand(Due due) {
        SecondHas x = new SecondHas();
        due.is("honour", x.honour(0), Due.NONE);
        due.is("years", x.years(1, 1), Due.NONE);
        due.is("undo", x.undo(), Due.NONE);
        due.is("often", x.often(0), Due.NONE);
        due.is("made", x.made(0, 1), Due.NONE);
        due.is("pair", x.pair(), Due.NONE);
        due.is("sum", x.sum(0), Due.HIDDEN);
        due.is("image", x.image(), Due.NONE);
        due.is("back", x.back(), Due.NONE);
    }
}
