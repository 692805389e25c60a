/** Promises 21 to 23, each sentence that names an edge: waits, spur, rounds. */
public final class EdgeWaitTest {
    private static final int[] NO_TURNS = {Integer.MIN_VALUE, -60, -1, 0, 61, 62, 120, Integer.MAX_VALUE};

    public static void main(String[] args) throws ReflectiveOperationException {
        Sentences.run(EdgeWaitTest.class);
    }

    // ---- 21

    @Says(promise = 21, words = "so many turns (1 .. 60), from STRIVER 0 on, round and round")
    static void eachNumberOfTurns(Due due) {
        for (int many = 2; many <= 6; many++) {
            for (int wants = 0; wants < many; wants++) {
                StringBuilder land = new StringBuilder("lr1");
                for (int i = 0; i < many; i++) {
                    land.append(i == wants ? ";sw9" : ";sw0");
                }
                SecondHas x = Due.of(land.toString());
                for (int turns = -1; turns <= 62; turns++) {
                    boolean sound = turns >= 1 && turns <= 60;
                    int last = (turns - 1 - wants) < 0 ? Due.NONE : (turns - 1 - wants) / many * many + wants;
                    due.is(wants + " of " + many + " in " + turns, x.waits(turns, wants), sound ? last : Due.HIDDEN);
                    due.is("another one", x.waits(turns, (wants + 1) % many), sound ? Due.NONE : Due.HIDDEN);
                }
            }
        }
    }

    @Says(promise = 21, words = "(it waits, if both give as much)")
    static void whoWaits(Due due) {
        for (int worth = 0; worth <= 99; worth += 3) {
            SecondHas x = Due.of("sw" + worth + ";sw" + worth + ";lr1");
            due.is("no fee", x.waits(60, 0), worth > 0 ? 0 : Due.NONE);
            due.is("the other comes too late", x.waits(60, 1), Due.NONE);
            x.change(3, worth);
            due.is("a fee of its worth", x.waits(60, 0), Due.NONE);
            due.is("a fee of its worth", x.waits(60, 1), Due.NONE);
            if (worth > 0) {
                x.change(3, worth - 1);
                due.is("a fee of one less", x.waits(60, 0), 0);
            }
        }
    }

    @Says(promise = 21, words = "Who goes as the PLACE-th has WORTH; the first who goes pays the FEE.")
    static void nobodyGoesForOthers(Due due) {
        for (int place = 2; place <= 6; place++) {
            for (int fee : new int[] {0, 1, 99}) {
                SecondHas x = Due.of("sw99;sw99;sw99;sw99;sw99;sw99;lr" + place + "f" + fee);
                for (int i = 0; i < 6; i++) {
                    due.is("place " + place, x.waits(60, i), Due.NONE);
                    due.is("place " + place, x.waits(1, i), Due.NONE);
                }
            }
        }
    }

    @Says(promise = 21, words = "HIDDEN: no such ones, out of bounds.")
    static void waitsRefused(Due due) {
        for (int turns : NO_TURNS) {
            Watch.same(due, "turns " + turns, States::three, x -> x.waits(turns, 0), Due.HIDDEN);
        }
        for (int nobody : States.NOBODY) {
            Watch.same(due, "striver " + nobody, States::three, x -> x.waits(9, nobody), Due.HIDDEN);
        }
        Watch.same(due, "no land", States::none, x -> x.waits(9, 0), Due.HIDDEN);
        Watch.same(due, "changes nothing", States::three, x -> x.waits(60, 0), Due.NONE);
        Watch.same(due, "the last of six", States::six, x -> x.waits(60, 5), Due.NONE);
        Watch.same(due, "no seventh", States::six, x -> x.waits(60, 6), Due.HIDDEN);
    }

    // ---- 22

    @Says(promise = 22, words = "the greatest FEE of -99 .. 99, in place of that told, by which somebody has the prize")
    static void spurOfEachWorth(Due due) {
        for (int worth = 0; worth <= 99; worth++) {
            SecondHas x = Due.of("sw" + worth + ";sw99;lr1f50");
            due.is("one turn", x.spur(1), worth - 1);
            due.is("two turns", x.spur(2), 98);
            due.is("the fee told stays", x.law(3), 50);
        }
    }

    @Says(promise = 22, words = "the greatest FEE of -99 .. 99, in place of that told, by which somebody has the prize")
    static void spurForTheSecond(Due due) {
        for (int many = 2; many <= 6; many++) {
            SecondHas x = Due.of("s;".repeat(many - 1) + "sw1");
            due.is("one turn: nobody can be second", x.spur(1), Due.HIDDEN);
            for (int turns = 2; turns <= 60; turns++) {
                due.is(many + " in " + turns, x.spur(turns), -1);
            }
        }
        SecondHas third = Due.of("s;s;s;s;lr3");
        for (int turns = 1; turns <= 60; turns++) {
            due.is("nobody goes as the second for nothing", third.spur(turns), Due.HIDDEN);
        }
    }

    @Says(promise = 22, words = "HIDDEN: none, no LAND, out of bounds.")
    static void spurRefused(Due due) {
        for (int turns : NO_TURNS) {
            Watch.same(due, "turns " + turns, States::three, x -> x.spur(turns), Due.HIDDEN);
            Watch.same(due, "turns " + turns, States::none, x -> x.spur(turns), Due.HIDDEN);
        }
        Watch.same(due, "no land", States::none, x -> x.spur(9), Due.HIDDEN);
        Watch.same(due, "none", States::three, x -> x.spur(1), Due.HIDDEN);
        Watch.same(due, "changes nothing", States::three, x -> x.spur(60), -1);
    }

    // ---- 23

    private static void rounds(Due due, String land, int still, int row, int ring) {
        SecondHas x = Due.of(land);
        due.is(land + ": still", x.rounds(0), still);
        due.is(land + ": row", x.rounds(1), row);
        due.is(land + ": ring", x.rounds(2), ring);
    }

    @Says(promise = 23, words = "4 one less than in the round ahead (0: MOST)")
    static void oneLessGoesRound(Due due) {
        rounds(due, "sk4b9;s;lm0", 0, 0, 1);
        for (int most = 1; most <= 9; most++) {
            for (int told = 0; told <= 9; told++) {
                int from = Math.min(told, most);
                int row = 10 * Math.floorMod(from - 100, most + 1);
                rounds(due, "sk4b" + told + ";s;lm" + most, Due.NONE, row, most + 1);
            }
        }
    }

    @Says(promise = 23, words = "2 that of the STRIVER ahead by number in the round ahead (STRIVER 0: that of the last)")
    static void theOneAheadByNumber(Due due) {
        rounds(due, "sk2b1;sk2b2;lm9", Due.NONE, 12, 2);
        rounds(due, "sk2b1;sk2b2;sk2b3;lm9", Due.NONE, 312, 3);
        rounds(due, "sk2b1;sk2b2;sk2b3;sk2b4;lm9", Due.NONE, 1234, 4);
        rounds(due, "sk2b1;sk2b2;sk2b3;sk2b4;sk2b5;lm9", Due.NONE, 12345, 5);
        rounds(due, "sk2b1;sk2b2;sk2b3;sk2b4;sk2b5;sk2b6;lm9", Due.NONE, 345612, 6);
        rounds(due, "sk2b1;sk2b2;sk2b1;sk2b2;lm9", Due.NONE, 1212, 2);
        rounds(due, "sk2;sb7;lm9", 1, 77, 1);
        rounds(due, "sb7;sk2;lm9", 1, 77, 1);
        rounds(due, "sb7;sk2;sk2;sk2;sk2;sk2;lm9", 5, 777777, 1);
    }

    @Says(promise = 23, words = "1 the bid with the greatest GAIN against the others' of the round ahead (of several the lowest)")
    static void theBestBid(Due due) {
        rounds(due, "sk1b9;sb9;lr6m9", 1, 9, 1);
        rounds(due, "sk1w9b9;sb3;lr1m9", 1, 33, 1);
        rounds(due, "sb3;sk1w9b9;lr1m9", 1, 34, 1);
        rounds(due, "sb3;sk1w4;lr1m9", 0, 30, 1);
        rounds(due, "sk1w9;sb3;lr1q2m9", 1, 33, 1);
        rounds(due, "sk1b5;sk1b5;sk1b5;lm0", 0, 0, 1);
        rounds(due, "sk1w0b5;sb5;lr1f99m9", 1, 5, 1);
    }

    @Says(promise = 23, words = "3 MOST")
    static void mostIsBid(Due due) {
        for (int most = 0; most <= 9; most++) {
            for (int told = 0; told <= 9; told++) {
                rounds(due, "sk3b" + told + ";s;lm" + most, told >= most ? 0 : 1, 10 * most, 1);
            }
        }
    }

    @Says(promise = 23, words = "STILL behind so many rounds (a round that changes none does not count; 100 at most); else the row behind 100;")
    static void stillOrNot(Due due) {
        rounds(due, "s;s", 0, 0, 1);
        rounds(due, "sb9;sb9;lm9", 0, 99, 1);
        rounds(due, "sb9;sb9;lm4", 0, 44, 1);
        rounds(due, "sk3;sk3;sk3;sk3;sk3;sk3;lm9", 1, 999999, 1);
        rounds(due, "sk3;sk2;sk2;sk2;sk2;sk2;lm9", 6, 999999, 1);
        rounds(due, "sk2w6b7;sk1w2b5;sk1w4b7;sk2w56b0;sk2w52b3;sk2w97b6;lr2t0q2f0m7", 79, 0, 1);
    }

    @Says(promise = 23, words = "A BID told above MOST is taken as MOST.")
    static void bidsToldAboveMost(Due due) {
        for (int most = 0; most <= 9; most++) {
            for (int told = 0; told <= 9; told++) {
                int taken = Math.min(told, most);
                rounds(due, "sb" + told + ";s;lm" + most, 0, 10 * taken, 1);
                rounds(due, "sb" + told + ";sk2b" + told + ";lm" + most, 0, 11 * taken, 1);
            }
        }
    }

    @Says(promise = 23, words = "how long the ring is into which it goes")
    static void ringsThatAreLong(Due due) {
        rounds(due, "sk4;sk2;sk2;sk2;sk2;sk2;lm9", Due.NONE, 12345, 10);
        rounds(due, "sk4b9;sk4b8;lm9", Due.NONE, 98, 10);
        rounds(due, "sk4;sk2;sk3;sk2b1;sk4b1;s;lm1", Due.NONE, 11110, 2);
        rounds(due, "sk2w7b0;sk2w4b0;sk4w12b3;sk1w65b6;sk2w0b1;sk2w28b8;lr3t0q0f0m7", Due.NONE, 7010, 128);
    }

    @Says(promise = 23, words = "HIDDEN: no LAND, no such what.")
    static void roundsRefused(Due due) {
        for (int what : new int[] {Integer.MIN_VALUE, -2, -1, 3, 4, Integer.MAX_VALUE}) {
            Watch.same(due, "what " + what, States::three, x -> x.rounds(what), Due.HIDDEN);
        }
        for (int what = 0; what < 3; what++) {
            int one = what;
            Watch.same(due, "no land", States::none, x -> x.rounds(one), Due.HIDDEN);
        }
        Watch.same(due, "changes nothing", States::six, x -> x.rounds(0), 0);
    }
}
