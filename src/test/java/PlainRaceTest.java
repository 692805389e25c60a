/**
 * Promises 10 to 12 and 36 to 39, the plain sentences: each second of many RACES held against the one ahead of it, and
 * what comes of a RACE against its seconds.
 */
public final class PlainRaceTest {
    /** What a RULE is worth by its letters. */
    private interface Worth {
        int of(int d, int a, int b, int o, int l, int t);
    }

    private static final String[] TEXTS = {"y:9", "y:a*2+1", "y:o>0?d;y:b<2&t<3?2-b;y:1", "y:[l+t*2]/3-a"};
    private static final Worth[] WORTHS = {(d, a, b, o, l, t) -> 9, (d, a, b, o, l, t) -> a * 2 + 1,
        (d, a, b, o, l, t) -> o > 0 ? d : b < 2 && t < 3 ? 2 - b : 1, (d, a, b, o, l, t) -> (l + t * 2) / 3 - a};
    private static final int[][] PACES = {{3, 2, 1}, {9, 9, 9}, {2, 5, 4}};
    private static final int[][] DAYS = {{1, 1}, {1, 5}, {5, 1}, {5, 4}, {5, 9}, {12, 4}, {12, 9}, {12, 14}};

    public static void main(String[] args) throws ReflectiveOperationException {
        Sentences.run(PlainRaceTest.class);
    }

    /** Three STRIVERS, their RULES, a TRACK and a DUSK. */
    private static final class Day {
        final int[] paces;
        final int[] rules;
        final int track;
        final int dusk;
        final Fresh fresh;

        Day(int[] paces, int[] rules, int[] day, String law) {
            this.paces = paces;
            this.rules = rules;
            this.track = day[0];
            this.dusk = day[1];
            this.fresh = new Fresh(() -> made(law));
        }

        private SecondHas made(String law) {
            SecondHas x = Due.of("sp" + paces[0] + ";sp" + paces[1] + ";sp" + paces[2] + law, TEXTS);
            for (int i = 0; i < 3; i++) {
                x.rule(i, rules[i]);
            }
            return x;
        }

        SecondHas x() {
            return fresh.x();
        }

        int where(int striver, int second) {
            return x().step(track, dusk, striver, second);
        }

        int came(int striver) {
            return x().came(track, dusk, striver);
        }

        String told() {
            return "paces " + paces[0] + paces[1] + paces[2] + " rules " + rules[0] + rules[1] + rules[2] + " " + track + " " + dusk + " ";
        }
    }

    private interface Asked {
        void of(Day day);
    }

    /** Every choice of RULES, NONE too, on each day. */
    private static void eachDay(String law, Asked asked) {
        for (int[] paces : PACES) {
            for (int[] day : DAYS) {
                for (int rules = 0; rules < 125; rules++) {
                    int[] of = {rules % 5 - 1, rules / 5 % 5 - 1, rules / 25 - 1};
                    asked.of(new Day(paces, of, day, law));
                }
            }
        }
    }

    private static int whereThen(Day day, int[] where, int striver, int second) {
        int rule = day.rules[striver];
        if (where[striver] == day.track || rule == Due.NONE) {
            return where[striver];
        }
        int a = 0;
        int b = 0;
        int o = 0;
        for (int other : where) {
            a += other > where[striver] ? 1 : 0;
            b += other < where[striver] ? 1 : 0;
            o += other == day.track ? 1 : 0;
        }
        int worth = WORTHS[rule].of(day.track - where[striver], a, b, o, day.dusk - second, second);
        return Math.min(day.track, where[striver] + Math.max(0, Math.min(day.paces[striver], worth)));
    }

    @Says(promise = 12, words = ": in each second each STRIVER who is not in goes as many steps as its RULE is worth (0 without one), "
            + "held within 0 .. PACE, all by where they were as it began.")
    static void eachSecondByTheOneAhead(Due due) {
        eachDay("", day -> {
            int[] where = {0, 0, 0};
            for (int second = 0; second <= day.dusk; second++) {
                int[] then = new int[3];
                for (int i = 0; i < 3; i++) {
                    due.is(day.told() + i + " at " + second, day.where(i, second), where[i]);
                    then[i] = whereThen(day, where, i, second);
                }
                where = then;
            }
        });
    }

    private static int secondIn(Day day, int striver) {
        for (int second = 0; second < day.dusk; second++) {
            if (day.where(striver, second + 1) == day.track) {
                return second;
            }
        }
        return Due.NONE;
    }

    @Says(promise = 11, words = "Who has gone TRACK steps is in, in that second; SCORE: the second (less is ahead).")
    static void whoHasGoneAllSteps(Due due) {
        eachDay("", day -> {
            for (int i = 0; i < 3; i++) {
                due.is(day.told() + i, day.came(i), secondIn(day, i));
            }
        });
    }

    @Says(promise = 11, words = "RACE: the second in which a STRIVER was in.")
    static void byItsPaceAlone(Due due) {
        for (int pace = 1; pace <= 9; pace++) {
            SecondHas x = Due.of("sp" + pace + ";s", "y:9");
            x.rule(0, 0);
            for (int track = 1; track <= 99; track++) {
                int second = (track + pace - 1) / pace - 1;
                due.is("came " + track + " by " + pace, x.came(track, 99, 0), second);
                due.is("just in time", x.came(track, second + 1, 0), second);
            }
        }
    }

    @Says(promise = 10, words = ", how many are in (1), the last second that was run (2).")
    static void howManyAreIn(Due due) {
        eachDay("", day -> {
            int in = 0;
            int last = 0;
            for (int i = 0; i < 3; i++) {
                int came = day.came(i);
                in += came == Due.NONE ? 0 : 1;
                last = Math.max(last, came == Due.NONE ? day.dusk - 1 : came);
            }
            due.is(day.told() + "in", day.x().race(day.track, day.dusk, 1), in);
            due.is(day.told() + "last", day.x().race(day.track, day.dusk, 2), last);
        });
    }

    private static int ahead(int[] came, int of, int ties) {
        int ahead = 0;
        for (int i = 0; i < came.length; i++) {
            boolean like = came[i] == came[of];
            boolean before = came[i] != Due.NONE && (came[i] < came[of] || (like && ties == 0 && i < of));
            ahead += before ? 1 : 0;
        }
        return ahead;
    }

    private static boolean isAlone(int[] came, int of) {
        for (int i = 0; i < came.length; i++) {
            if (i != of && came[i] == came[of]) {
                return false;
            }
        }
        return true;
    }

    private static int[] times(Day day) {
        return new int[] {day.came(0), day.came(1), day.came(2)};
    }

    private static int whoHasIt(int[] came, int place, int ties) {
        for (int i = 0; i < came.length; i++) {
            boolean in = came[i] != Due.NONE && (ties == 0 || isAlone(came, i));
            if (in && ahead(came, i, ties) == place - 1) {
                return i;
            }
        }
        return Due.NONE;
    }

    @Says(promise = 10, words = "An ORDER of STRIVERS (by times, or by bids) is told by SCORES: who is ahead of whom, and who are alike. "
            + "With TIES 0 of like ones the lower number is ahead.")
    static void whoHasItByTimes(Due due) {
        for (int law = 0; law < 8; law++) {
            int place = law / 2 + 1;
            int ties = law % 2;
            eachDay(";lr" + place + "t" + ties, day -> {
                due.is(day.told() + place + ties, day.x().race(day.track, day.dusk, 0), whoHasIt(times(day), place, ties));
            });
        }
    }

    @Says(promise = 39, words = "MEDAL of a STRIVER: its place in a RACE (1 and how many are ahead; with TIES 0 of like ones the lower number is ahead), "
            + "0 if it is not in.")
    static void medalsByTimes(Due due) {
        for (int ties = 0; ties < 2; ties++) {
            int one = ties;
            eachDay(";lt" + ties, day -> {
                int[] came = times(day);
                for (int i = 0; i < 3; i++) {
                    int place = came[i] == Due.NONE ? 0 : 1 + ahead(came, i, one);
                    due.is(day.told() + i + " " + one, day.x().medal(day.track, day.dusk, i), place);
                }
            });
        }
    }

    /** Who has it, if one STRIVER had another RULE (or NONE). */
    private static int hasWith(Day day, int striver, int rule) {
        SecondHas x = day.x();
        x.rule(striver, rule);
        int has = x.race(day.track, day.dusk, 0);
        x.rule(striver, day.rules[striver]);
        return has;
    }

    @Says(promise = 36, words = "WITHOUT: who has it. NONE: nobody.")
    static void withoutEach(Due due) {
        eachDay(";lr1", day -> {
            for (int i = 0; i < 3; i++) {
                due.is(day.told() + i, day.x().without(day.track, day.dusk, i), hasWith(day, i, Due.NONE));
            }
        });
    }

    @Says(promise = 37, words = "CHOICE: the lowest RULE (all others by theirs) by which a STRIVER has it in a RACE.")
    static void choiceOfEach(Due due) {
        eachDay("", day -> {
            for (int i = 0; i < 3; i++) {
                int lowest = Due.NONE;
                for (int rule = 3; rule >= 0; rule--) {
                    lowest = hasWith(day, i, rule) == i ? rule : lowest;
                }
                due.is(day.told() + i, day.x().choice(day.track, day.dusk, i), lowest);
            }
        });
    }

    @Says(promise = 38, words = "LATEST: the least DUSK (1 .. 99) with which somebody has it on a TRACK.")
    static void latestOfEach(Due due) {
        for (int[] paces : PACES) {
            for (int rules = 0; rules < 125; rules++) {
                int[] of = {rules % 5 - 1, rules / 5 % 5 - 1, rules / 25 - 1};
                Day day = new Day(paces, of, new int[] {12, 1}, ";lt1");
                int least = Due.NONE;
                for (int dusk = 99; dusk >= 1; dusk--) {
                    least = day.x().race(12, dusk, 0) != Due.NONE ? dusk : least;
                }
                due.is(day.told(), day.x().latest(12), least);
            }
        }
    }
}
