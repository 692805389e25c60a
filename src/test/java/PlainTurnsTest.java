import java.util.ArrayList;
import java.util.Arrays;
import java.util.List;

/** Promises 21 to 23, the plain sentences: WAITING as a tree of all that can be done, ROUNDS as a whole history. */
public final class PlainTurnsTest {
    private static final int[][] WORTHS = {{5, 5}, {3, 7}, {7, 3}, {0, 4}, {4, 0}, {1, 9, 2}, {6, 2, 6}, {0, 0, 3}};

    public static void main(String[] args) throws ReflectiveOperationException {
        Sentences.run(PlainTurnsTest.class);
    }

    // ---- 21, 22

    /** So many turns; of who went (a row of STRIVER and turn, in their order) it is told what each has. */
    private static final class Line {
        final int[] worth;
        final int place;
        final int turns;
        int fee;

        Line(int[] worth, int place, int turns, int fee) {
            this.worth = worth;
            this.place = place;
            this.turns = turns;
            this.fee = fee;
        }

        String land() {
            StringBuilder text = new StringBuilder();
            for (int one : worth) {
                text.append("sw").append(one).append(';');
            }
            return text + "lr" + place + "f" + Math.max(0, fee);
        }

        int holder(List<int[]> went) {
            return went.size() < place ? Due.NONE : went.get(place - 1)[0];
        }

        private int has(List<int[]> went, int striver) {
            int has = holder(went) == striver ? worth[striver] : 0;
            return !went.isEmpty() && went.get(0)[0] == striver ? has - fee : has;
        }

        private static boolean isGone(List<int[]> went, int striver) {
            return went.stream().anyMatch(one -> one[0] == striver);
        }

        List<int[]> toTheEnd(int turn, List<int[]> went) {
            if (turn == turns) {
                return went;
            }
            int striver = turn % worth.length;
            List<int[]> waiting = toTheEnd(turn + 1, went);
            if (isGone(went, striver)) {
                return waiting;
            }
            List<int[]> then = new ArrayList<>(went);
            then.add(new int[] {striver, turn});
            List<int[]> going = toTheEnd(turn + 1, then);
            return has(going, striver) > has(waiting, striver) ? going : waiting;
        }
    }

    @Says(promise = 21, words = "(who has gone is passed over, its turn is gone by, too): one goes over the line, or waits.")
    static void allThatCanBeDone(Due due) {
        for (int[] worth : WORTHS) {
            for (int fee = 0; fee <= 8; fee++) {
                SecondHas x = Due.of(new Line(worth, 1, 1, fee).land());
                for (int place = 1; place <= 3; place++) {
                    x.change(0, place);
                    for (int turns = 1; turns <= 7; turns++) {
                        waits(due, x, new Line(worth, place, turns, fee));
                    }
                }
            }
        }
    }

    private static void waits(Due due, SecondHas x, Line line) {
        int[] turn = new int[line.worth.length];
        Arrays.fill(turn, Due.NONE);
        for (int[] one : line.toTheEnd(0, new ArrayList<>())) {
            turn[one[0]] = one[1];
        }
        for (int i = 0; i < turn.length; i++) {
            due.is(line.land() + ", " + line.turns + " turns, " + i, x.waits(line.turns, i), turn[i]);
        }
    }

    @Says(promise = 21, words = "Each does what gives it more, all others doing so behind it (it waits, if both give as much): who goes at which turn.")
    static void byHand(Due due) {
        SecondHas x = Due.of("sw5;sw3;lr1f4");
        due.is("it goes at its last turn: the other does not want it", x.waits(3, 0), 2);
        due.is("the other pays more than it has", x.waits(3, 1), Due.NONE);
        SecondHas both = Due.of("sw5;sw9;lr1f4");
        due.is("it goes at once: the other would", both.waits(3, 0), 0);
        due.is("the other is too late", both.waits(3, 1), Due.NONE);
    }

    @Says(promise = 21, words = "WAITING: the turn at which a STRIVER goes. NONE: it does not.")
    static void theTurnOfOne(Due due) {
        SecondHas x = Due.of("sw1;sw1;sw9;lr1f5");
        for (int turns = 1; turns <= 60; turns++) {
            due.is("0 in " + turns, x.waits(turns, 0), Due.NONE);
            due.is("1 in " + turns, x.waits(turns, 1), Due.NONE);
            due.is("2 at its last turn in " + turns, x.waits(turns, 2), turns < 3 ? Due.NONE : turns / 3 * 3 - 1);
        }
    }

    @Says(promise = 22, words = "SPUR: the greatest FEE of -99 .. 99, in place of that told, by which somebody has the prize.")
    static void spurOfAllFees(Due due) {
        for (int[] worth : WORTHS) {
            for (int place = 1; place <= 3; place++) {
                SecondHas x = Due.of(new Line(worth, place, 1, 1).land());
                for (int turns = 1; turns <= 6; turns++) {
                    due.is(place + " " + Arrays.toString(worth) + " " + turns, x.spur(turns), spur(new Line(worth, place, turns, 0)));
                }
            }
        }
    }

    private static int spur(Line line) {
        for (line.fee = 99; line.fee >= -99; line.fee--) {
            if (line.holder(line.toTheEnd(0, new ArrayList<>())) != Due.NONE) {
                return line.fee;
            }
        }
        return Due.HIDDEN;
    }

    // ---- 23

    /** The row (by its number) behind one round, for three STRIVERS of these KINDS who tell these bids. */
    private static int behind(Gains land, int number, int[] kinds, int[] told) {
        int most = land.law[Gains.MOST];
        int then = 0;
        for (int i = 0; i < 3; i++) {
            int own = land.bid(number, i);
            int[] anew = {Math.min(most, told[i]), bestBid(land, number, i), land.bid(number, (i + 2) % 3), most, own == 0 ? most : own - 1};
            then = land.with(then, i, anew[kinds[i]]);
        }
        return then;
    }

    private static int bestBid(Gains land, int number, int striver) {
        int best = 0;
        for (int bid = 1; bid <= land.law[Gains.MOST]; bid++) {
            best = land.more(number, striver, bid) > land.more(number, striver, best) ? bid : best;
        }
        return best;
    }

    private static void rounds(Due due, Gains land, int[] kinds, int[] told) {
        StringBuilder text = new StringBuilder();
        for (int i = 0; i < 3; i++) {
            text.append("sw" + land.worth[i] + "k" + kinds[i] + "b" + told[i] + ";");
        }
        text.append(land.lawText());
        List<Integer> rows = new ArrayList<>();
        int number = 0;
        for (int i = 0; i < 3; i++) {
            number = land.with(number, i, Math.min(land.law[Gains.MOST], told[i]));
        }
        for (int round = 0; round <= 200; round++) {
            rows.add(number);
            number = behind(land, number, kinds, told);
        }
        int still = Due.NONE;
        for (int round = 100; round >= 0; round--) {
            still = rows.get(round).equals(rows.get(round + 1)) ? round : still;
        }
        int ring = 1;
        while (!rows.get(100 + ring).equals(rows.get(100))) {
            ring++;
        }
        SecondHas x = Due.of(text.toString());
        due.is(text + " still", x.rounds(0), still);
        due.is(text + " row", x.rounds(1), land.row(rows.get(still == Due.NONE ? 100 : still)));
        due.is(text + " ring", x.rounds(2), ring);
    }

    @Says(promise = 23, words = "ROUNDS: all bid anew at once, from the bids they tell: by KIND: 0 as told, ")
    static void allKindsOfThree(Due due) {
        int[][] laws = {{1, 0, 0, 0, 2}, {1, 1, 2, 1, 3}, {2, 0, 0, 0, 3}, {2, 0, 1, 2, 2}, {3, 1, 0, 1, 2}};
        for (int[] law : laws) {
            Gains land = new Gains(new int[] {5, 3, 9}, law);
            for (int kinds = 0; kinds < 125; kinds++) {
                for (int[] told : new int[][] {{0, 0, 0}, {2, 1, 0}, {1, 9, 3}}) {
                    rounds(due, land, new int[] {kinds % 5, kinds / 5 % 5, kinds / 25}, told);
                }
            }
        }
    }

    @Says(promise = 23, words = "ROUNDS: behind how many STILL (what 0; NONE: not), the row then (1), how long the ring is (2; 1: STILL).")
    static void roundsByHand(Due due) {
        SecondHas still = Due.of("sb1;sk2;sk2b9;lm4");
        due.is("104, 110, 111", still.rounds(0), 2);
        due.is("the row then", still.rounds(1), 111);
        due.is("no ring", still.rounds(2), 1);
        SecondHas ring = Due.of("sk4b1;sk3;lm2");
        due.is("10, 02, 22, 12, 02", ring.rounds(0), Due.NONE);
        due.is("behind 100: 10 first, then 02, 22, 12 by turns", ring.rounds(1), 2);
        due.is("three", ring.rounds(2), 3);
    }
}
