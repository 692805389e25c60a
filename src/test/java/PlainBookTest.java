import java.util.ArrayList;
import java.util.List;

/** Promises 24 to 30 and 40 to 42, the plain sentences: books of many LANDS, held against what each row of them gives. */
public final class PlainBookTest {
    public static void main(String[] args) throws ReflectiveOperationException {
        Sentences.run(PlainBookTest.class);
    }

    /** A LAND and a book of its rows (by their numbers), of each length up to 40. */
    private static final class Made {
        final Gains land;
        final List<Integer> numbers = new ArrayList<>();
        final SecondHas x;

        Made(Gains land, int size) {
            this.land = land;
            this.x = Due.of(land.land());
            for (int i = 0; i < size; i++) {
                int number = (i * i + 5 * i) % land.rows();
                numbers.add(number);
                x.honour(land.row(number));
            }
        }

        int often(int striver) {
            return (int) numbers.stream().filter(number -> land.has(number) == striver).count();
        }

        int sum(int striver) {
            return numbers.stream().mapToInt(number -> land.gain(number, striver)).sum();
        }

        /** Who is the one FIRST, or NONE if there are several. */
        private int first(int number) {
            int bits = land.x().bids(land.row(number), 2);
            return Integer.bitCount(bits) == 1 ? Integer.numberOfTrailingZeros(bits) : Due.NONE;
        }

        int times(int first, int has) {
            return (int) numbers.stream().filter(number -> land.has(number) == has && first(number) == first).count();
        }
    }

    private static List<Made> books() {
        List<Made> books = new ArrayList<>();
        for (Gains land : Gains.some()) {
            books.add(new Made(land, books.size() % 41));
        }
        return books;
    }

    private static String of(Made made) {
        return made.numbers.size() + " of " + made.land.land() + ": ";
    }

    @Says(promise = 27, words = "HONOURS: a book of BIDS that were made (40 at most): of each who had it, GAINS. OFTEN: how often one had it;")
    static void whoHadItHowOften(Due due) {
        for (Made made : books()) {
            for (int i = 0; i < made.land.n(); i++) {
                due.is(of(made) + i, made.x.often(i), made.often(i));
            }
        }
    }

    @Says(promise = 30, words = "SUM of GAINS of one.")
    static void sumsOfGains(Due due) {
        for (Made made : books()) {
            for (int i = 0; i < made.land.n(); i++) {
                due.is(of(made) + i, made.x.sum(i), made.sum(i));
            }
        }
    }

    @Says(promise = 28, words = "MADE: how often one had it when another one was the (one) FIRST;")
    static void whoWasMadeByWhom(Due due) {
        for (Made made : books()) {
            for (int first = 0; first < made.land.n(); first++) {
                for (int has = 0; has < made.land.n(); has++) {
                    int want = first == has ? Due.NONE : made.times(first, has);
                    due.is(of(made) + first + " " + has, made.x.made(first, has), want);
                }
            }
        }
    }

    @Says(promise = 29, words = "PAIR: the two for whom that is most often (10 times who was FIRST and who had it; of several the least; none: never).")
    static void thePairOfABook(Due due) {
        for (Made made : books()) {
            int pair = Due.NONE;
            int most = 1;
            for (int one = 10 * made.land.n(); one >= 0; one--) {
                boolean two = one / 10 < made.land.n() && one % 10 < made.land.n() && one / 10 != one % 10;
                if (two && made.times(one / 10, one % 10) >= most) {
                    pair = one;
                    most = made.times(one / 10, one % 10);
                }
            }
            due.is(of(made), made.x.pair(), pair);
        }
    }

    @Says(promise = 26, words = "The latest can be UNDONE.")
    static void theLatestIsUndone(Due due) {
        for (Made made : books()) {
            while (!made.numbers.isEmpty()) {
                made.numbers.remove(made.numbers.size() - 1);
                due.is(of(made) + "undone", made.x.undo(), made.numbers.size());
                due.is(of(made) + "sum", made.x.sum(1), made.sum(1));
                due.is(of(made) + "often", made.x.often(0), made.often(0));
            }
            due.is("none", made.x.undo(), Due.NONE);
        }
    }

    @Says(promise = 24, words = "BIDS that were made come to the book: how many there are.")
    static void bidsCome(Due due) {
        SecondHas x = Due.of("sw9;sw7;lm3");
        due.is("the first", x.honour(32), 1);
        due.is("1 has it for 2", x.sum(1), 5);
        due.is("the second, with TIES 0 by number", x.honour(33), 2);
        due.is("1 has it for 3 more", x.sum(1), 9);
        due.is("the third", x.honour(13), 3);
        due.is("0 has it for 1", x.sum(0), 8);
        due.is("rows may come twice", x.honour(13), 4);
        due.is("0 has it twice", x.often(0), 2);
    }

    @Says(promise = 25, words = "Years: how many are in the book.")
    static void yearsCome(Due due) {
        SecondHas x = Due.of("sw9;sw7;lm3");
        due.is("three", x.years(3, 7L), 3);
        due.is("and two", x.years(2, 7L), 5);
        due.is("one made", x.honour(0), 6);
        due.is("up to 40", x.years(34, 1L << 40), 40);
        int often = x.often(0) + x.often(1);
        due.is("with TIES 0 of two one is always second", often, 40);
    }

    @Says(promise = 41, words = "BACK: how many are in the book.")
    static void backToABook(Due due) {
        for (Made made : books()) {
            int size = made.numbers.size();
            due.is(of(made) + "image", made.x.image(), size);
            made.x.undo();
            made.x.change(Gains.PLACE, 1 + made.land.law[Gains.PLACE] % 6);
            made.x.change(Gains.FEE, 50);
            due.is(of(made) + "back", made.x.back(), size);
            for (int i = 0; i < made.land.n(); i++) {
                due.is(of(made) + i, made.x.sum(i), made.sum(i));
            }
            for (int what = 0; what < 5; what++) {
                due.is(of(made) + "law " + what, made.x.law(what), made.land.law[what]);
            }
        }
    }
}
