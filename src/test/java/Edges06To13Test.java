/** Promises 6 to 13, and the days of term 2: a test for each sentence that names a boundary case. */
final class Edges06To13Test {
    private static final int NONE = QuarrelOvens.NONE;
    private static final int MIN = Integer.MIN_VALUE;
    private static final int MAX = Integer.MAX_VALUE;

    /** As many PEOPLE, SUBJECTS, HEARTHS as may be. */
    private static final String FULL = "people 8;cools 9;subject 9 1;subject 8 2;subject 7 3;subject 6 4;subject 5 5;subject 1 9;"
        + "hearth 1 1;hearth 60 60;hearth 1 99;hearth 60 99;holds 0 0 0;holds 7 5 9;holds 7 0 9;";
    /** 0 and 1 are 5 APART on SUBJECT 0, 2 HOLDS as 1 does, 3 nothing; on SUBJECT 1 all HOLD nothing. */
    private static final String FOUR = "people 4;cools 3;subject 4 3;subject 2 1;hearth 5 20;hearth 1 99;"
        + "holds 0 0 1;holds 1 0 6;holds 2 0 6;";

    public static void main(String[] args) {
        Check.runAll(Edges06To13Test.class);
    }

    // ---- 6: village

    private static void village(Check c, QuarrelOvens x, int[][] wants) {
        for (int[] want : wants) c.due("village(0, " + want[0] + ")", x.village(0, want[0]), want[1]);
    }

    // "SUBJECTS, at most 6 .. PEOPLE, at most 8 .. HEARTHS, at most 4"
    static void promise06AsManyAsMayBe(Check c) {
        village(c, Check.village(FULL), new int[][] {{0, 8}, {1, 6}, {2, 4}, {3, 9}, {10, 9}, {11, 8}, {12, 7}, {13, 6}, {14, 5}, {15, 1},
            {20, 1}, {21, 2}, {22, 3}, {23, 4}, {24, 5}, {25, 9}, {30, 1}, {31, 60}, {32, 1}, {33, 60}, {40, 1}, {41, 60}, {42, 99}, {43, 99},
            {100, 0}, {105, NONE}, {170, 9}, {175, 9}, {174, NONE}});
    }

    // "-2: .. for another what"
    static void promise06AnotherWhat(Check c) {
        QuarrelOvens x = Check.village(FULL);
        for (int what : new int[] {MIN, MIN + 1, -101, -100, -11, -10, -2, -1, 4, 5, 9, 16, 19, 26, 29, 34, 39, 44, 45, 49, 50, 99,
            106, 109, 116, 119, 176, 179, 180, 185, 190, 200, 1000, MAX - 1, MAX}) {
            c.due("village(0, " + what + ")", x.village(0, what), -2);
        }
    }

    // "-2: there is none such (of any)"
    static void promise06NoneSuchOfAny(Check c) {
        QuarrelOvens x = Check.village("people 2;subject 3 4;hearth 5 6;");
        village(c, x, new int[][] {{10, 3}, {11, -2}, {20, 4}, {21, -2}, {30, 5}, {31, -2}, {40, 6}, {41, -2},
            {100, NONE}, {101, -2}, {110, NONE}, {111, -2}, {120, -2}, {121, -2}});
    }

    static void promise06NoneSuchInAnEmptyVillage(Check c) {
        QuarrelOvens x = Check.village("");
        village(c, x, new int[][] {{0, 0}, {1, 0}, {2, 0}, {3, 2}, {10, -2}, {20, -2}, {30, -2}, {40, -2}, {100, -2}});
        village(c, Check.village("people 1;"), new int[][] {{0, 1}, {100, -2}});
        village(c, Check.village("subject 1 1;"), new int[][] {{1, 1}, {100, -2}});
    }

    static void promise06NoSuchVillage(Check c) {
        QuarrelOvens x = Check.village(FULL);
        for (int v : new int[] {MIN, -2, -1, 1, 2, MAX}) c.due("village " + v, x.village(v, 0), -2);
        Check.tell(x, 0, NONE, "people 7;");
        c.due("the second", x.village(1, 0), 7);
        c.due("no third", x.village(2, 0), -2);
    }

    // "what each HOLDS of a SUBJECT, 0 .. 9, or nothing (at first)"; "(NONE: nothing)"
    static void promise06NothingHeldAtFirst(Check c) {
        QuarrelOvens x = Check.village("people 2;subject 1 1;subject 1 1;holds 0 1 0;holds 1 0 9;");
        village(c, x, new int[][] {{100, NONE}, {101, 0}, {110, 9}, {111, NONE}});
    }

    // "COOLS, 0 .. 9 (2 at first)"
    static void promise06CoolsAtFirst(Check c) {
        c.due("without", Check.village("people 1;").village(0, 3), 2);
        c.due("0", Check.village("cools 0;").village(0, 3), 0);
        c.due("9", Check.village("cools 9;").village(0, 3), 9);
    }

    // "Later ones strike"
    static void promise06LaterOnesStrike(Check c) {
        QuarrelOvens x = Check.village("people 8;cools 9;subject 1 1;holds 0 0 9;people 1;cools 0;holds 0 0 0;");
        village(c, x, new int[][] {{0, 1}, {3, 0}, {100, 0}});
        village(c, Check.village("people 1;people 8;"), new int[][] {{0, 8}});
    }

    // "but SUBJECTS, HEARTHS .. which are further ones"
    static void promise06SubjectsAndHearthsAreFurtherOnes(Check c) {
        QuarrelOvens x = Check.village("subject 1 2;hearth 3 4;subject 1 2;hearth 5 6;");
        village(c, x, new int[][] {{1, 2}, {2, 2}, {10, 1}, {21, 2}, {30, 3}, {41, 6}});
    }

    // ---- 7: apart

    // "NONE: they are one"
    static void promise07TheyAreOne(Check c) {
        QuarrelOvens x = Check.village(FOUR);
        for (int p = 0; p < 4; p++) {
            c.due("apart " + p, x.apart(0, p, p, 0, false), NONE);
            c.due("burns " + p, x.apart(0, p, p, 0, true), NONE);
        }
    }

    // "they do not both HOLD something"
    static void promise07TheyDoNotBothHoldSomething(Check c) {
        QuarrelOvens x = Check.village(FOUR);
        int[][] couples = {{0, 3, 0}, {3, 0, 0}, {0, 1, 1}};
        for (int[] n : couples) {
            c.due("apart", x.apart(0, n[0], n[1], n[2], false), NONE);
            c.due("burns", x.apart(0, n[0], n[1], n[2], true), NONE);
        }
    }

    // "or there is none such (of any)"
    static void promise07NoneSuchOfAny(Check c) {
        QuarrelOvens x = Check.village(FOUR);
        for (int wrong : new int[] {MIN, -2, -1, 4, 8, MAX}) {
            c.due("village", x.apart(wrong, 0, 1, 0, false), NONE);
            c.due("first", x.apart(0, wrong, 1, 0, false), NONE);
            c.due("second", x.apart(0, 0, wrong, 0, true), NONE);
            c.due("subject", x.apart(0, 0, 1, wrong, true), NONE);
        }
        c.due("the next village", x.apart(1, 0, 1, 0, false), NONE);
        c.due("the next subject", x.apart(0, 0, 1, 2, false), NONE);
        c.due("no village", new QuarrelOvens().apart(0, 0, 1, 0, false), NONE);
    }

    static void promise07NoneSuchWhereThereAreAllThatMayBe(Check c) {
        QuarrelOvens x = Check.village(FULL);
        for (int p = 0; p < 8; p++) {
            c.due("a ninth PERSON", x.apart(0, p, 8, 0, false), NONE);
            c.due("a ninth PERSON", x.apart(0, 8, p, 5, true), NONE);
            c.due("a seventh SUBJECT", x.apart(0, p, (p + 1) % 8, 6, false), NONE);
            c.due("a seventh SUBJECT", x.apart(0, 7 - p, (14 - p) % 8, 6, true), NONE);
        }
    }

    static void promise07NotApartIs0(Check c) {
        QuarrelOvens x = Check.village(FOUR);
        c.due("apart", x.apart(0, 1, 2, 0, false), 0);
        c.due("burns", x.apart(0, 1, 2, 0, true), 0);
    }

    static void promise07AsFarAsCanBe(Check c) {
        QuarrelOvens x = Check.village(FULL);
        c.due("apart", x.apart(0, 0, 7, 0, false), 9);
        c.due("apart, turned", x.apart(0, 7, 0, 0, false), 9);
        c.due("burns", x.apart(0, 0, 7, 0, true), 81);
        c.due("burns, turned", x.apart(0, 7, 0, 0, true), 81);
    }

    // ---- 8: deed

    // "How many DEEDS (k NONE, what 0)"; "at most 40"
    static void promise08HowMany(Check c) {
        c.due("none", Check.day("", "").deed(0, NONE, 0), 0);
        c.due("one", Check.day("", "hour;").deed(0, NONE, 0), 1);
        c.due("forty", Check.day("", "hour;".repeat(40)).deed(0, NONE, 0), 40);
    }

    static void promise08LastOfForty(Check c) {
        QuarrelOvens x = Check.day("", "hour;".repeat(39) + "quarrel 7 6 5 3;");
        int[] wants = {0, 7, 6, 5, 3};
        for (int what = 0; what < 5; what++) c.due("what " + what, x.deed(0, 39, what), wants[what]);
        c.due("the one before", x.deed(0, 38, 0), 4);
        c.due("no 41st", x.deed(0, 40, 0), -2);
    }

    // "1, 2, 3, 4: its numbers (NONE without)"
    static void promise08NoneWithoutANumber(Check c) {
        String[] deeds = {"quarrel 4 3 2 1;", "agree 4 3 2;", "deny 4 3 2;", "news 4 3;", "hour;"};
        int[][] wants = {{0, 4, 3, 2, 1}, {1, 4, 3, 2, NONE}, {2, 4, 3, 2, NONE}, {3, 4, 3, NONE, NONE}, {4, NONE, NONE, NONE, NONE}};
        for (int i = 0; i < 5; i++) {
            // behind a quarrel, so that numbers of another deed would show
            QuarrelOvens x = Check.day("", "quarrel 7 6 5 3;" + deeds[i] + "quarrel 7 6 5 3;");
            for (int what = 0; what < 5; what++) c.due(deeds[i] + " what " + what, x.deed(0, 1, what), wants[i][what]);
        }
    }

    // "-2: there is none such (of either)"
    static void promise08NoSuchDeed(Check c) {
        QuarrelOvens x = Check.day("", "hour;hour;");
        for (int k : new int[] {MIN, -3, -2, 2, 3, 40, MAX}) {
            for (int what = 0; what < 5; what++) c.due("deed " + k, x.deed(0, k, what), -2);
        }
        c.due("of an empty day", Check.day("", "").deed(0, 0, 0), -2);
    }

    static void promise08NoSuchDay(Check c) {
        QuarrelOvens x = Check.day("", "hour;");
        for (int day : new int[] {MIN, -2, -1, 1, 2, MAX}) {
            c.due("how many, day " + day, x.deed(day, NONE, 0), -2);
            c.due("deed, day " + day, x.deed(day, 0, 0), -2);
        }
    }

    // "or for another what"
    static void promise08AnotherWhat(Check c) {
        QuarrelOvens x = Check.day("", "quarrel 0 1 2 3;hour;");
        for (int what : new int[] {MIN, -2, -1, 5, 6, MAX}) {
            c.due("of a quarrel, " + what, x.deed(0, 0, what), -2);
            c.due("of an hour, " + what, x.deed(0, 1, what), -2);
        }
    }

    static void promise08AnotherWhatOfHowMany(Check c) {
        QuarrelOvens x = Check.day("", "hour;");
        for (int what : new int[] {MIN, -1, 1, 2, 4, 5, MAX}) c.due("what " + what, x.deed(0, NONE, what), -2);
    }

    // "Later ones strike, but .. DEEDS .., which are further ones"
    static void promise08TheSameDeedTwiceIsTwo(Check c) {
        c.due("twice", Check.day("", "agree 0 1 2;agree 0 1 2;").deed(0, NONE, 0), 2);
    }

    // ---- 9: stop

    private static void stops(Check c, String village, String day, int stop) {
        c.due("stop of '" + day + "'", Check.day(village, day).stop(0, 0), stop);
    }

    // "STOP: the first DEED that can't be, else how many there are."
    static void promise09AllCanBe(Check c) {
        stops(c, FOUR, "", 0);
        stops(c, FOUR, "hour;", 1);
        stops(c, FOUR, "hour;".repeat(40), 40);
        stops(c, "", "hour;".repeat(40), 40);
    }

    static void promise09FirstThatCannotBe(Check c) {
        stops(c, FOUR, "quarrel 1 2 0 0;hour;hour;", 0);
        stops(c, FOUR, "hour;quarrel 1 2 0 0;hour;quarrel 1 2 0 0;", 1);
        stops(c, FOUR, "hour;".repeat(39) + "quarrel 1 2 0 0;", 39);
    }

    // "NONE: there is none such (of either)."
    static void promise09NoneSuch(Check c) {
        QuarrelOvens x = Check.day(FOUR, "hour;");
        c.due("there", x.stop(0, 0), 1);
        for (int wrong : new int[] {MIN, -2, -1, 1, 2, MAX}) {
            c.due("village " + wrong, x.stop(wrong, 0), NONE);
            c.due("day " + wrong, x.stop(0, wrong), NONE);
            c.due("both " + wrong, x.stop(wrong, wrong), NONE);
        }
        c.due("no village", new QuarrelOvens().stop(0, 0), NONE);
    }

    // "A DEED can't be, if there is no such PERSON, SUBJECT, HEARTH"
    static void promise09NoSuchPerson(Check c) {
        stops(c, FOUR, "quarrel 4 0 0 0;", 0);
        stops(c, FOUR, "quarrel 0 4 0 0;", 0);
        stops(c, FOUR, "agree 4 0 0;", 0);
        stops(c, FOUR, "agree 0 4 0;", 0);
        stops(c, FOUR, "deny 4 0 0;", 0);
        stops(c, FOUR, "deny 0 4 0;", 0);
        stops(c, FOUR, "news 0 5;quarrel 0 7 0 0;", 1);
        stops(c, FOUR, "news 0 5;agree 0 7 0;", 1);
        stops(c, FOUR, "news 0 5;deny 7 0 0;", 1);
    }

    static void promise09NoSuchSubject(Check c) {
        stops(c, FOUR, "quarrel 0 1 2 0;", 0);
        stops(c, FOUR, "agree 0 1 2;", 0);
        stops(c, FOUR, "deny 0 1 2;", 0);
        stops(c, FOUR, "news 2 0;", 0);
        stops(c, FOUR, "news 5 0;", 0);
        stops(c, FOUR, "news 1 0;", 1);
    }

    static void promise09NoSuchHearth(Check c) {
        stops(c, FOUR, "quarrel 0 1 0 2;", 0);
        stops(c, FOUR, "quarrel 0 1 0 3;", 0);
        stops(c, FOUR, "quarrel 0 1 0 1;", 1);
        stops(c, "people 2;subject 1 1;holds 0 0 1;holds 1 0 2;", "quarrel 0 1 0 0;", 0);
    }

    // "quarrel: two PEOPLE who both HOLD something of a SUBJECT"
    static void promise09QuarrelOfThoseWhoDoNotBothHoldSomething(Check c) {
        stops(c, FOUR, "quarrel 0 3 0 0;", 0);
        stops(c, FOUR, "quarrel 3 0 0 0;", 0);
        stops(c, FOUR, "quarrel 0 1 1 0;", 0);
    }

    // "are APART on it"
    static void promise09QuarrelOfThoseNotApart(Check c) {
        stops(c, FOUR, "quarrel 1 2 0 0;", 0);
        stops(c, FOUR, "agree 0 1 0;quarrel 1 0 0 0;", 1);
        stops(c, FOUR, "agree 0 1 0;quarrel 1 2 0 0;", 2);
    }

    // "and have not quarrelled in this hour"
    static void promise09QuarrelTwiceInAnHour(Check c) {
        stops(c, FOUR, "quarrel 0 1 0 1;quarrel 0 1 0 1;", 1);
        stops(c, FOUR, "quarrel 0 1 0 1;quarrel 0 2 0 1;", 1);
        stops(c, FOUR, "quarrel 0 1 0 1;quarrel 2 0 0 1;", 1);
        stops(c, FOUR, "quarrel 1 0 0 1;deny 3 1 0;quarrel 3 1 0 1;", 2);
        stops(c, FOUR, "quarrel 0 1 0 1;hour;quarrel 0 1 0 1;", 3);
        stops(c, FOUR, "deny 3 2 0;quarrel 0 1 0 1;quarrel 2 3 0 1;", 3);
    }

    // "on a SUBJECT that has HEAT"
    static void promise09QuarrelWithoutHeat(Check c) {
        stops(c, FOUR, "quarrel 0 1 0 1;hour;quarrel 0 1 0 1;hour;quarrel 0 1 0 1;", 4);
        stops(c, FOUR, "quarrel 0 1 0 1;hour;quarrel 0 1 0 1;hour;news 0 5;deny 0 1 0;quarrel 0 1 0 1;", 7);
    }

    // "before a HEARTH that has not CRACKED"
    static void promise09QuarrelBeforeACrackedHearth(Check c) {
        String low = "people 4;subject 3 1;hearth 1 3;hearth 1 99;holds 0 0 0;holds 1 0 2;holds 2 0 0;holds 3 0 1;";
        stops(c, low, "quarrel 0 1 0 0;quarrel 2 3 0 0;", 1);
        stops(c, low, "quarrel 0 1 0 0;hour;hour;quarrel 2 3 0 0;", 3);
        stops(c, low, "quarrel 0 1 0 0;quarrel 2 3 0 1;", 2);
        stops(c, low, "quarrel 2 3 0 0;quarrel 0 1 0 0;hour;quarrel 2 3 0 0;", 3);
    }

    // "agree: two PEOPLE who both HOLD something of a SUBJECT"
    static void promise09AgreeOfThoseWhoDoNotBothHoldSomething(Check c) {
        stops(c, FOUR, "agree 0 3 0;", 0);
        stops(c, FOUR, "agree 3 0 0;", 0);
        stops(c, FOUR, "agree 0 1 1;", 0);
        stops(c, FOUR, "agree 1 2 0;agree 0 1 0;agree 0 1 0;", 3);
    }

    // "deny: .. the second one .. (who must HOLD something)"
    static void promise09DenyOneWhoHoldsNothing(Check c) {
        stops(c, FOUR, "deny 0 3 0;", 0);
        stops(c, FOUR, "deny 0 1 1;", 0);
        stops(c, FOUR, "deny 3 0 0;", 1);
    }

    static void promise09NewsAndHoursCanAlwaysBe(Check c) {
        stops(c, "subject 1 1;", "news 0 0;hour;news 0 9;news 0 9;", 4);
        stops(c, "people 8;", "hour;hour;news 0 0;", 2);
    }

    // ---- 10: state

    private static void state(Check c, QuarrelOvens x, int n, int[][] wants) {
        for (int[] want : wants) c.due("state " + n + ", what " + want[0], x.state(0, 0, n, want[0]), want[1]);
    }

    // "A DAY of a VILLAGE begins at hour 0, all as told, all HEARTHS with WARM 0."
    static void promise10BehindNoDeed(Check c) {
        for (String day : new String[] {"", "hour;", "quarrel 1 2 0 0;", "quarrel 0 1 0 0;"}) {
            state(c, Check.day(FOUR, day), 0, new int[][] {{0, 0}, {1, 0}, {2, 0}, {3, 0}, {10, 0}, {11, 0}, {20, 4}, {21, 2},
                {100, 1}, {110, 6}, {120, 6}, {130, NONE}, {101, NONE}});
        }
    }

    // "A STATE is behind the first n DEEDS, n up to STOP."; "-2: there is no such STATE"
    static void promise10UpToStop(Check c) {
        QuarrelOvens x = Check.day(FOUR, "hour;hour;quarrel 1 2 0 0;hour;");
        for (int n = 0; n <= 2; n++) c.due("state " + n, x.state(0, 0, n, 0), n);
        for (int n : new int[] {MIN, -2, -1, 3, 4, 5, 40, MAX}) c.due("no state " + n, x.state(0, 0, n, 0), -2);
    }

    static void promise10UpToAllDeeds(Check c) {
        QuarrelOvens x = Check.day(FOUR, "hour;".repeat(40));
        c.due("the last", x.state(0, 0, 40, 0), 40);
        c.due("the one before", x.state(0, 0, 39, 0), 39);
        c.due("no 41st", x.state(0, 0, 41, 0), -2);
        c.due("of an empty day", Check.day(FOUR, "").state(0, 0, 1, 0), -2);
    }

    static void promise10NoSuchVillageOrDay(Check c) {
        QuarrelOvens x = Check.day(FOUR, "hour;");
        for (int wrong : new int[] {MIN, -2, -1, 1, 2, MAX}) {
            c.due("village " + wrong, x.state(wrong, 0, 0, 0), -2);
            c.due("day " + wrong, x.state(0, wrong, 0, 0), -2);
        }
    }

    // "or for another what"
    static void promise10AnotherWhat(Check c) {
        QuarrelOvens x = Check.day(FULL, "hour;");
        for (int what : new int[] {MIN, MIN + 1, -100, -10, -2, -1, 4, 5, 9, 14, 15, 19, 26, 29, 30, 40, 99, 106, 109, 176, 179, 180, 200, MAX - 1, MAX}) {
            for (int n = 0; n < 2; n++) c.due("state " + n + ", what " + what, x.state(0, 0, n, what), -2);
        }
        QuarrelOvens y = Check.day(FOUR, "hour;");
        for (int what : new int[] {12, 22, 102, 140}) c.due("none such, what " + what, y.state(0, 0, 1, what), -2);
    }

    static void promise10LastOfEach(Check c) {
        state(c, Check.day(FULL, "hour;"), 1, new int[][] {{13, 0}, {25, 1}, {175, 9}, {174, NONE}});
    }

    // "its WARM is more by what it BURNS; if that is more than CRACKS, it has CRACKED"
    static void promise10AsWarmAsItMayBe(Check c) {
        state(c, Check.day(FOUR, "quarrel 0 1 0 0;"), 1, new int[][] {{1, 0}, {2, 3}, {3, 20}, {10, 20}, {11, 0}, {20, 1}});
    }

    // "(WARM 0, for good)"
    static void promise10OneMoreThanItMayBe(Check c) {
        QuarrelOvens x = Check.day(FOUR.replace("hearth 5 20", "hearth 5 19"), "quarrel 0 1 0 0;hour;");
        for (int n = 1; n <= 2; n++) state(c, x, n, new int[][] {{1, 1}, {3, 20}, {10, 0}, {11, 0}, {20, 1}});
        QuarrelOvens y = Check.day(FOUR.replace("hearth 1 99", "hearth 1 5"), "quarrel 0 1 0 1;hour;");
        for (int n = 1; n <= 2; n++) state(c, y, n, new int[][] {{1, 2}, {3, 20}, {11, 0}, {20, 1}});
    }

    static void promise10CracksByTheSecondQuarrel(Check c) {
        String low = "people 4;subject 3 1;hearth 1 8;holds 0 0 0;holds 1 0 2;holds 2 0 0;holds 3 0 1;";
        QuarrelOvens x = Check.day(low, "quarrel 0 1 0 0;quarrel 2 3 0 0;");
        state(c, x, 2, new int[][] {{1, 0}, {2, 15}, {3, 8}, {10, 8}, {20, 1}});
        QuarrelOvens y = Check.day(low.replace("1 8", "1 7"), "quarrel 0 1 0 0;quarrel 2 3 0 0;");
        state(c, y, 1, new int[][] {{1, 0}, {2, 3}, {10, 6}});
        state(c, y, 2, new int[][] {{1, 1}, {2, 15}, {3, 8}, {10, 0}, {20, 1}});
    }

    // "HEAT of the SUBJECT is FADES less, 0 at least"
    static void promise10HeatIs0AtLeast(Check c) {
        QuarrelOvens x = Check.day(FOUR, "quarrel 0 1 0 1;hour;quarrel 0 1 0 1;");
        state(c, x, 1, new int[][] {{20, 1}, {21, 2}});
        state(c, x, 3, new int[][] {{20, 0}, {3, 25}});
        String even = "people 2;subject 3 3;hearth 1 99;holds 0 0 0;holds 1 0 1;";
        state(c, Check.day(even, "quarrel 0 1 0 0;"), 1, new int[][] {{20, 0}, {3, 3}});
    }

    // "hour ..: WARM of all is COOLS less, 0 at least; it is the next hour"
    static void promise10WarmIs0AtLeast(Check c) {
        QuarrelOvens x = Check.day("people 2;cools 3;subject 7 1;hearth 1 99;holds 0 0 0;holds 1 0 1;", "quarrel 0 1 0 0;hour;hour;hour;hour;");
        int[] warm = {0, 7, 4, 1, 0, 0};
        for (int n = 0; n < 6; n++) state(c, x, n, new int[][] {{10, warm[n]}, {0, Math.max(0, n - 1)}});
    }

    static void promise10WarmOfAllHearthsCools(Check c) {
        String two = "people 4;cools 2;subject 5 1;hearth 1 99;hearth 1 99;holds 0 0 0;holds 1 0 1;holds 2 0 0;holds 3 0 1;";
        QuarrelOvens x = Check.day(two, "quarrel 0 1 0 0;quarrel 2 3 0 1;hour;");
        state(c, x, 3, new int[][] {{10, 3}, {11, 2}});
    }

    static void promise10WithoutCooling(Check c) {
        String none = "people 2;cools 0;subject 7 1;hearth 1 99;holds 0 0 0;holds 1 0 1;";
        state(c, Check.day(none, "quarrel 0 1 0 0;hour;hour;"), 3, new int[][] {{10, 7}, {0, 2}});
    }

    // "PEOPLE who have quarrelled in this hour (bits)"
    static void promise10QuarrelledInThisHourAlone(Check c) {
        QuarrelOvens x = Check.day(FOUR, "quarrel 2 0 0 1;agree 0 1 0;hour;");
        int[] bits = {0, 5, 5, 0};
        for (int n = 0; n < 4; n++) c.due("state " + n, x.state(0, 0, n, 2), bits[n]);
        String eight = "people 8;subject 1 1;hearth 1 9;holds 6 0 0;holds 7 0 1;";
        c.due("the last two", Check.day(eight, "quarrel 7 6 0 0;").state(0, 0, 1, 2), 192);
    }

    // "agree: .. HOLD the mean of it (cut)"
    static void promise10MeanIsCut(Check c) {
        int[][] rows = {{0, 9, 4}, {9, 0, 4}, {0, 1, 0}, {8, 9, 8}, {9, 9, 9}, {0, 0, 0}, {3, 5, 4}};
        for (int[] row : rows) {
            String two = "people 3;subject 1 1;holds 0 0 " + row[0] + ";holds 1 0 " + row[1] + ";holds 2 0 7;";
            state(c, Check.day(two, "agree 0 1 0;"), 1, new int[][] {{100, row[2]}, {110, row[2]}, {120, 7}, {20, 1}});
        }
    }

    // "deny: the first one HOLDS 9 less what the second one HOLDS of it"
    static void promise10DenyOfEachNumber(Check c) {
        for (int held = 0; held <= 9; held++) {
            String two = "people 3;subject 1 1;holds 1 0 " + held + ";holds 2 0 3;";
            state(c, Check.day(two, "deny 0 1 0;"), 1, new int[][] {{100, 9 - held}, {110, held}, {120, 3}});
            state(c, Check.day(two, "deny 2 1 0;"), 1, new int[][] {{100, NONE}, {110, held}, {120, 9 - held}});
        }
    }

    // "news: all PEOPLE HOLD that of a SUBJECT; its HEAT is 9"
    static void promise10NewsForAll(Check c) {
        QuarrelOvens x = Check.day(FOUR, "news 0 0;news 1 9;");
        state(c, x, 1, new int[][] {{100, 0}, {110, 0}, {120, 0}, {130, 0}, {101, NONE}, {131, NONE}, {20, 9}, {21, 2}});
        state(c, x, 2, new int[][] {{100, 0}, {101, 9}, {111, 9}, {121, 9}, {131, 9}, {20, 9}, {21, 9}});
        state(c, Check.day("subject 2 2;", "news 0 4;"), 1, new int[][] {{20, 9}, {100, -2}});
        state(c, Check.day(FULL, "news 5 0;"), 1, new int[][] {{25, 9}, {105, 0}, {175, 0}, {170, 9}});
    }

    static void promise10HeatByNewsFades(Check c) {
        String two = "people 2;subject 2 4;hearth 1 99;holds 0 0 0;holds 1 0 1;";
        QuarrelOvens x = Check.day(two, "news 0 1;deny 0 1 0;quarrel 0 1 0 0;");
        state(c, x, 3, new int[][] {{3, 63}, {10, 63}, {20, 5}});
    }

    // "A DEED can't be": nothing of it is done in another STATE, nor in what was told
    static void promise10WhatIsToldStays(Check c) {
        QuarrelOvens x = Check.day(FOUR, "quarrel 0 1 0 0;news 0 0;deny 0 1 0;hour;");
        x.stop(0, 0);
        x.state(0, 0, 4, 0);
        int[][] wants = {{0, 4}, {3, 3}, {10, 4}, {100, 1}, {110, 6}, {130, NONE}};
        for (int[] want : wants) c.due("village " + want[0], x.village(0, want[0]), want[1]);
        state(c, x, 0, new int[][] {{0, 0}, {10, 0}, {20, 4}, {100, 1}});
    }

    // ---- 11: keenest

    private static final String KEEN = "people 4;subject 2 1;subject 3 1;subject 6 1;holds 0 0 0;holds 1 0 9;holds 0 1 0;holds 1 1 6;"
        + "holds 0 2 0;holds 1 2 3;holds 2 0 5;holds 3 0 5;";

    // "of several the least"
    static void promise11LeastOfSeveral(Check c) {
        QuarrelOvens x = Check.village(KEEN);
        c.due("subject", x.keenest(0, 0, 1, false), 0);
        c.due("turned", x.keenest(0, 1, 0, false), 0);
        c.due("much", x.keenest(0, 0, 1, true), 18);
        QuarrelOvens y = Check.village(KEEN.replace("holds 1 2 3", "holds 1 2 4"));
        c.due("the last", y.keenest(0, 0, 1, false), 2);
        c.due("the last, much", y.keenest(0, 0, 1, true), 24);
    }

    static void promise11JustAbove0(Check c) {
        QuarrelOvens x = Check.village("people 2;subject 1 1;subject 1 1;holds 0 0 3;holds 1 0 3;holds 0 1 3;holds 1 1 4;");
        c.due("subject", x.keenest(0, 0, 1, false), 1);
        c.due("much", x.keenest(0, 0, 1, true), 1);
    }

    // "(on none above 0: none)"; "NONE: none"
    static void promise11OnNoneAbove0(Check c) {
        QuarrelOvens x = Check.village(KEEN);
        c.due("not apart", x.keenest(0, 2, 3, false), NONE);
        c.due("not apart, much", x.keenest(0, 2, 3, true), NONE);
        QuarrelOvens y = Check.village("people 3;subject 1 1;holds 0 0 5;");
        c.due("one holds nothing", y.keenest(0, 0, 1, false), NONE);
        c.due("none holds anything", y.keenest(0, 1, 2, true), NONE);
        c.due("no subjects", Check.village("people 2;").keenest(0, 0, 1, true), NONE);
    }

    // "they are one, or there is none such (of any)"
    static void promise11OneOrNoneSuch(Check c) {
        QuarrelOvens x = Check.village(KEEN);
        for (int p = 0; p < 2; p++) for (int i = 0; i < 2; i++) c.due("one", x.keenest(0, p, p, i == 0), NONE);
        for (int wrong : new int[] {MIN, -2, -1, 4, 8, MAX}) {
            c.due("village", x.keenest(wrong, 0, 1, false), NONE);
            c.due("first", x.keenest(0, wrong, 1, false), NONE);
            c.due("second", x.keenest(0, 0, wrong, true), NONE);
        }
        c.due("the next village", x.keenest(1, 0, 1, false), NONE);
    }

    // ---- 12: lasts

    private static String fading(int heat, int fades, int apart) {
        return "people 3;subject " + heat + " " + fades + ";holds 0 0 0;holds 1 0 " + apart + ";";
    }

    private static void lasts(Check c, int heat, int fades, int apart, int times, int much) {
        QuarrelOvens x = Check.village(fading(heat, fades, apart));
        c.due("lasts " + heat + " " + fades, x.lasts(0, 0, 1, 0, false), times);
        c.due("lasts much " + heat + " " + fades, x.lasts(0, 1, 0, 0, true), much);
    }

    // "how often they can quarrel on it"
    static void promise12UntilThereIsNoHeat(Check c) {
        lasts(c, 1, 1, 1, 1, 1);
        lasts(c, 9, 9, 9, 1, 81);
        lasts(c, 8, 9, 1, 1, 8);
        lasts(c, 9, 8, 1, 2, 10);
        lasts(c, 9, 3, 2, 3, 36);
        lasts(c, 9, 1, 9, 9, 405);
        lasts(c, 8, 1, 1, 8, 36);
    }

    static void promise12NotApartIs0(Check c) {
        lasts(c, 9, 1, 0, 0, 0);
    }

    // "NONE: as apart()."
    static void promise12AsApart(Check c) {
        QuarrelOvens x = Check.village(fading(9, 1, 9));
        for (int i = 0; i < 2; i++) {
            boolean much = i == 1;
            c.due("one", x.lasts(0, 0, 0, 0, much), NONE);
            c.due("nothing held", x.lasts(0, 0, 2, 0, much), NONE);
            c.due("nothing held", x.lasts(0, 2, 0, 0, much), NONE);
            for (int wrong : new int[] {MIN, -2, -1, 3, 8, MAX}) {
                c.due("village", x.lasts(wrong, 0, 1, 0, much), NONE);
                c.due("first", x.lasts(0, wrong, 1, 0, much), NONE);
                c.due("second", x.lasts(0, 0, wrong, 0, much), NONE);
                c.due("subject", x.lasts(0, 0, 1, wrong, much), NONE);
            }
            c.due("the next subject", x.lasts(0, 0, 1, 1, much), NONE);
        }
    }

    // ---- 13: together

    // "what BURNS in all on all SUBJECTS, as LASTS"
    static void promise13NothingIs0(Check c) {
        c.due("no subjects", Check.village("people 2;").together(0, 0, 1), 0);
        c.due("one holds nothing", Check.village("people 2;subject 9 1;holds 0 0 9;").together(0, 0, 1), 0);
        c.due("not apart", Check.village("people 2;subject 9 1;holds 0 0 9;holds 1 0 9;").together(0, 0, 1), 0);
    }

    static void promise13AsMuchAsCanBe(Check c) {
        StringBuilder all = new StringBuilder("people 2;" + "subject 9 1;".repeat(6));
        for (int s = 0; s < 6; s++) all.append("holds 0 " + s + " 0;holds 1 " + s + " 9;");
        c.due("six subjects", Check.village(all.toString()).together(0, 0, 1), 2430);
        c.due("six subjects, turned", Check.village(all.toString()).together(0, 1, 0), 2430);
    }

    // "NONE: they are one, or there is none such (of any)."
    static void promise13OneOrNoneSuch(Check c) {
        QuarrelOvens x = Check.village(KEEN);
        c.due("there", x.together(0, 0, 1), 2 * 9 + 9 + 6 * (3 + 2 + 1) + 3 * (6 + 5 + 4 + 3 + 2 + 1));
        for (int p = 0; p < 4; p++) c.due("one", x.together(0, p, p), NONE);
        for (int wrong : new int[] {MIN, -2, -1, 4, 8, MAX}) {
            c.due("village", x.together(wrong, 0, 1), NONE);
            c.due("first", x.together(0, wrong, 1), NONE);
            c.due("second", x.together(0, 0, wrong), NONE);
        }
        c.due("the next village", x.together(1, 0, 1), NONE);
    }
}
