import java.util.ArrayList;
import java.util.List;

/**
 * A LAND and all that bids and gain answer of it, row by row: what else the document tells of rows is told by these.
 * A row has a number here (0 .. rows() - 1, rising with the rows), so that one bid of it can be changed.
 */
final class Gains {
    static final int PLACE = 0;
    static final int TIES = 1;
    static final int PAID = 2;
    static final int FEE = 3;
    static final int MOST = 4;

    final int[] worth;
    final int[] law;
    private final Fresh fresh;
    private int[] has;
    private int[][] gain;

    Gains(int[] worth, int... law) {
        this.worth = worth;
        this.law = law;
        this.fresh = new Fresh(() -> Due.of(land()));
    }

    /** LANDS of two to four, with each PLACE, TIES and PAID, with a FEE and without. */
    static List<Gains> some() {
        int[][] worths = {{4, 2}, {0, 9}, {5, 3, 1}, {0, 6, 2}, {3, 3, 3}, {3, 5, 1, 2}};
        List<Gains> lands = new ArrayList<>();
        for (int[] worth : worths) {
            for (int place = 1; place <= worth.length + 1; place++) {
                for (int law = 0; law < 12; law++) {
                    int most = worth.length == 4 ? 2 : law % 2 == 0 ? 3 : 2;
                    lands.add(new Gains(worth, place, law & 1, law / 2 % 3, law < 6 ? 0 : 2, most));
                }
            }
            lands.add(new Gains(worth, 1, 0, 0, 1, 0));
        }
        return lands;
    }

    String land() {
        StringBuilder text = new StringBuilder();
        for (int one : worth) {
            text.append("sw").append(one).append(';');
        }
        return text + lawText();
    }

    String lawText() {
        return "lr" + law[PLACE] + "t" + law[TIES] + "q" + law[PAID] + "f" + law[FEE] + "m" + law[MOST];
    }

    SecondHas x() {
        return fresh.x();
    }

    int n() {
        return worth.length;
    }

    int rows() {
        return (int) Math.pow(law[MOST] + 1, n());
    }

    private int weight(int striver) {
        return (int) Math.pow(law[MOST] + 1, n() - 1 - striver);
    }

    int bid(int number, int striver) {
        return number / weight(striver) % (law[MOST] + 1);
    }

    int with(int number, int striver, int bid) {
        return number + (bid - bid(number, striver)) * weight(striver);
    }

    int row(int number) {
        int row = 0;
        for (int i = 0; i < n(); i++) {
            row = 10 * row + bid(number, i);
        }
        return row;
    }

    private void ask() {
        if (gain != null) {
            return;
        }
        has = new int[rows()];
        gain = new int[rows()][n()];
        for (int number = 0; number < rows(); number++) {
            has[number] = x().bids(row(number), 0);
            for (int i = 0; i < n(); i++) {
                gain[number][i] = x().gain(row(number), i);
            }
        }
    }

    int has(int number) {
        ask();
        return has[number];
    }

    int gain(int number, int striver) {
        ask();
        return gain[number][striver];
    }

    /** What a STRIVER gains more by another bid alone. */
    int more(int number, int striver, int bid) {
        return gain(with(number, striver, bid), striver) - gain(number, striver);
    }

    int mostMore(int number, int striver) {
        int most = 0;
        for (int bid = 0; bid <= law[MOST]; bid++) {
            most = Math.max(most, more(number, striver, bid));
        }
        return most;
    }

    int sum(int number, int some) {
        int sum = 0;
        for (int i = 0; i < n(); i++) {
            sum += (some >> i & 1) * gain(number, i);
        }
        return sum;
    }
}
