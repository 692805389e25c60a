/** Promise 23: rounds. */
public final class RoundsTest {
    public static void main(String[] args) {
        Due due = new Due();
        still(due);
        rings(due);
        replies(due);
        longWays(due);
        refused(due);
        due.end("RoundsTest");
    }

    private static void rounds(Due due, String land, int still, int row, int ring) {
        SecondHas x = Due.of(land);
        due.is(land + ": still", x.rounds(0), still);
        due.is(land + ": row", x.rounds(1), row);
        due.is(land + ": ring", x.rounds(2), ring);
    }

    private static void still(Due due) {
        rounds(due, "sb3;sb1", 0, 31, 1);
        rounds(due, "sb9;sb1;lm4", 0, 41, 1);
        rounds(due, "sk3b2;sb1", 1, 51, 1);
        rounds(due, "sk3;sk2;sk2;sk2;lm7", 4, 7777, 1);
        rounds(due, "sk3;sk2;sk2;sk2;sk2;sk2;lm7", 6, 777777, 1);
        rounds(due, "sk2b4;sk2b4;sk2b4", 0, 444, 1);
        rounds(due, "sk4;sk4;lm0", 0, 0, 1);
    }

    private static void rings(Due due) {
        rounds(due, "sk2b1;sk2b2", Due.NONE, 12, 2);
        rounds(due, "sk2b1;sk2b2;sk2b3", Due.NONE, 312, 3);
        rounds(due, "sk4b9;sb0;lm9", Due.NONE, 90, 10);
        rounds(due, "sk4b3;sb0;lm2", Due.NONE, 10, 3);
        rounds(due, "sk4;sk2;lm1", Due.NONE, 1, 2);
        rounds(due, "sk2w7b0;sk2w4b0;sk4w12b3;sk1w65b6;sk2w0b1;sk2w28b8;lr3t0q0f0m7", Due.NONE, 7010, 128);
    }

    private static void replies(Due due) {
        rounds(due, "sk1w9b0;sk0b2;lr1m5", 1, 22, 1);
        rounds(due, "sk0b2;sk1w9b0;lr1m5", 1, 23, 1);
        rounds(due, "sk1w2b3;sk0b2;lr1m5", 1, 2, 1);
        rounds(due, "sk1b5;sk1b5;lr6m5", 1, 0, 1);
        rounds(due, "sk1w9b3;sk0b4;lr2m5", 1, 4, 1);
    }

    /** The longest ways that were found, held against the whole history. */
    private static void longWays(Due due) {
        String[] lands = {"sk2w6b7;sk1w2b5;sk1w4b7;sk2w56b0;sk2w52b3;sk2w97b6;lr2t0q2f0m7",
            "sk2w74b7;sk1w11b7;sk1w94b0;sk4w13b2;sk1w55b7;sk2w4b3;lr2t0q1f0m9",
            "sk2w12b7;sk2w5b8;sk1w41b3;sk2w3b4;sk2w9b2;sk2w50b9;lr2t0q1f0m9"};
        for (String land : lands) {
            Oracle y = new Oracle();
            for (char sign : land.toCharArray()) {
                y.feed(sign, 0, 0, 0, 0);
            }
            y.text(0);
            rounds(due, land, y.rounds(0), y.rounds(1), y.rounds(2));
        }
        due.is("still behind 79", Due.of(lands[0]).rounds(0), 79);
        due.is("a ring of 80", Due.of(lands[1]).rounds(2), 80);
    }

    private static void refused(Due due) {
        SecondHas x = Due.of("s;s");
        due.is("what -1", x.rounds(-1), Due.HIDDEN);
        due.is("what 3", x.rounds(3), Due.HIDDEN);
        for (int what = 0; what < 3; what++) {
            due.is("no land", new SecondHas().rounds(what), Due.HIDDEN);
        }
    }
}
