/** Promises 23 to 35: a test for each sentence that names a boundary case. */
final class Edges23To35Test {
    private static final int NONE = QuarrelOvens.NONE;
    private static final int MIN = Integer.MIN_VALUE;
    private static final int MAX = Integer.MAX_VALUE;

    public static void main(String[] args) {
        Check.runAll(Edges23To35Test.class);
    }

    /** One SUBJECT of HEAT 1, of which they HOLD so much (NONE: nothing). */
    private static String holding(int... held) {
        StringBuilder text = new StringBuilder("people " + held.length + ";subject 1 1;");
        for (int p = 0; p < held.length; p++) if (held[p] != NONE) text.append("holds " + p + " 0 " + held[p] + ";");
        return text.toString();
    }

    // ---- 23: hired

    private static void hired(Check c, String village, int a, int b, int subject, int much) {
        QuarrelOvens x = Check.village(village);
        c.due("hired " + a + " " + b, x.hired(0, a, b, false), subject);
        c.due("hired much " + a + " " + b, x.hired(0, a, b, true), much);
    }

    // "the first one denies the second one on one SUBJECT (what the second one HOLDS), then it BURNS on it"
    static void promise23EachNumber(Check c) {
        int[] much = {81, 63, 45, 27, 9, 9, 27, 45, 63, 81};
        for (int held = 0; held <= 9; held++) hired(c, "people 2;subject 9 1;holds 1 0 " + held + ";", 0, 1, 0, much[held]);
    }

    static void promise23JustAbove0(Check c) {
        hired(c, holding(5, 4), 0, 1, 0, 1);
        hired(c, holding(NONE, 5), 0, 1, 0, 1);
    }

    static void promise23WhatTheFirstOneHoldsIsNothing(Check c) {
        for (int held : new int[] {NONE, 0, 4, 9}) hired(c, holding(held, 0), 0, 1, 0, 9);
    }

    // "of several the least (above 0)"
    static void promise23LeastOfSeveral(Check c) {
        String three = "people 2;subject 1 1;subject 3 1;subject 9 1;holds 1 0 9;holds 1 1 3;holds 1 2 5;";
        hired(c, three, 0, 1, 0, 9);
        hired(c, three.replace("holds 1 2 5", "holds 1 2 6"), 0, 1, 2, 27);
    }

    // "NONE: none"
    static void promise23None(Check c) {
        hired(c, holding(5, NONE), 0, 1, NONE, NONE);
        hired(c, "people 2;", 0, 1, NONE, NONE);
    }

    // "they are one, or there is none such (of any)"
    static void promise23OneOrNoneSuch(Check c) {
        QuarrelOvens x = Check.village(holding(0, 9, 5));
        for (int p = 0; p < 3; p++) for (int i = 0; i < 2; i++) c.due("one", x.hired(0, p, p, i == 0), NONE);
        for (int wrong : new int[] {MIN, -2, -1, 3, 8, MAX}) {
            for (int i = 0; i < 2; i++) {
                c.due("village", x.hired(wrong, 0, 1, i == 0), NONE);
                c.due("first", x.hired(0, wrong, 1, i == 0), NONE);
                c.due("second", x.hired(0, 0, wrong, i == 0), NONE);
            }
        }
        c.due("the next village", x.hired(1, 0, 1, true), NONE);
    }

    // ---- 24: filled

    private static void filled(Check c, String village, int... wants) {
        QuarrelOvens x = Check.village(village);
        for (int k = -1; k < 2; k++) c.due("filled " + k + " of " + village, x.filled(0, 0, k), k + 1 < wants.length ? wants[k + 1] : NONE);
    }

    // 0 and 1 BURN 4 on SUBJECT 0, 2 and 3 BURN 5 on SUBJECT 1
    private static final String TWO = "people 4;subject 1 1;subject 1 1;holds 0 0 0;holds 1 0 4;holds 2 1 0;holds 3 1 5;";

    // "the most WARM, no more than CRACKS"
    static void promise24NoMoreThanCracks(Check c) {
        filled(c, TWO + "hearth 1 99;", 9, 1, 123);
        filled(c, TWO + "hearth 1 9;", 9, 1, 123);
        filled(c, TWO + "hearth 1 8;", 5, 123);
        filled(c, TWO + "hearth 1 5;", 5, 123);
        filled(c, TWO + "hearth 1 4;", 4, 1);
    }

    // "how much (0: none)"; "NONE: not so many"
    static void promise24NoneIs0(Check c) {
        filled(c, TWO + "hearth 1 3;", 0);
        filled(c, "hearth 1 99;", 0);
        filled(c, holding(5, 5, NONE) + "hearth 1 99;", 0);
    }

    static void promise24WhatItWantsIsNothing(Check c) {
        filled(c, TWO + "hearth 60 99;", 9, 1, 123);
    }

    // "one quarrel, or two (nobody, no SUBJECT in both)"
    static void promise24NobodyInBoth(Check c) {
        filled(c, "people 3;subject 1 1;subject 1 1;hearth 1 99;holds 0 0 0;holds 1 0 4;holds 1 1 0;holds 2 1 5;", 5, 112);
    }

    static void promise24NoSubjectInBoth(Check c) {
        filled(c, "people 4;subject 1 1;hearth 1 99;holds 0 0 0;holds 1 0 0;holds 2 0 5;holds 3 0 5;", 5, 2);
    }

    // "which, the first row by numbers, one ahead of two"
    static void promise24OneAheadOfTwo(Check c) {
        String six = "people 6;subject 1 1;subject 1 1;subject 1 1;holds 0 0 0;holds 1 0 4;holds 2 1 0;holds 3 1 5;holds 4 2 0;holds 5 2 9;";
        filled(c, six + "hearth 1 9;", 9, 245);
    }

    static void promise24FirstOfSeveral(Check c) {
        filled(c, "people 4;subject 1 1;subject 1 1;hearth 1 9;holds 2 0 0;holds 3 0 9;holds 0 1 0;holds 1 1 9;", 9, 23);
        // 4 and 5 by 1 with 123, and by 1 with 245: the lesser row
        String six = "people 6;subject 1 1;subject 1 1;subject 1 1;holds 0 0 0;holds 1 0 4;holds 2 1 0;holds 3 1 5;holds 4 2 0;holds 5 2 5;hearth 1 9;";
        filled(c, six, 9, 1, 123);
        // 4 and 5 by 1 with 245, and by 123 with 245
        filled(c, six.replace("holds 3 1 5", "holds 3 1 4"), 9, 1, 245);
    }

    // "the one of less number first"
    static void promise24LessNumberFirst(Check c) {
        filled(c, TWO.replace("holds 1 0 4", "holds 1 0 6") + "hearth 1 99;", 11, 1, 123);
        filled(c, "people 4;subject 1 1;subject 1 1;holds 2 0 0;holds 3 0 4;holds 0 1 0;holds 1 1 5;hearth 1 99;", 9, 23, 101);
    }

    static void promise24OfOneHearthBehindAnother(Check c) {
        QuarrelOvens x = Check.village(TWO + "hearth 1 9;hearth 1 5;hearth 1 3;");
        int[][] wants = {{9, 1, 123}, {5, 123, NONE}, {0, NONE, NONE}};
        for (int i = 0; i < 6; i++) {
            for (int k = -1; k < 2; k++) c.due("hearth " + i % 3 + ", " + k, x.filled(0, i % 3, k), wants[i % 3][k + 1]);
        }
    }

    static void promise24AsHotAsCanBe(Check c) {
        String hot = "people 4;subject 9 1;subject 2 1;holds 0 0 0;holds 1 0 9;holds 2 1 0;holds 3 1 9;";
        filled(c, hot + "hearth 1 99;", 99, 1, 123);
        filled(c, hot + "hearth 1 98;", 81, 1);
        filled(c, hot + "hearth 1 80;", 18, 123);
    }

    // "NONE: not so many, or there is none such (of either)."
    static void promise24NotSoManyOrNoneSuch(Check c) {
        QuarrelOvens x = Check.village(TWO + "hearth 1 99;hearth 1 5;");
        for (int k : new int[] {MIN, -3, -2, 2, 3, MAX}) c.due("k " + k, x.filled(0, 0, k), NONE);
        c.due("no second one", x.filled(0, 1, 1), NONE);
        for (int h : new int[] {MIN, -2, -1, 2, 3, 4, MAX}) for (int k = -1; k < 1; k++) c.due("hearth " + h, x.filled(0, h, k), NONE);
        for (int v : new int[] {MIN, -2, -1, 1, 2, MAX}) for (int k = -1; k < 1; k++) c.due("village " + v, x.filled(v, 0, k), NONE);
        c.due("no hearths", Check.village(TWO).filled(0, 0, NONE), NONE);
    }

    // ---- 25: halves

    private static void halves(Check c, String village, int much, int camp) {
        QuarrelOvens x = Check.village(village);
        c.due("halves of " + village, x.halves(0, false), much);
        c.due("camp of " + village, x.halves(0, true), camp);
    }

    // "NONE: no PEOPLE, or there is none such."
    static void promise25NoPeople(Check c) {
        halves(c, "", NONE, NONE);
        halves(c, "subject 1 1;hearth 1 9;", NONE, NONE);
    }

    static void promise25NoneSuch(Check c) {
        QuarrelOvens x = Check.village(holding(0, 9));
        for (int v : new int[] {MIN, -2, -1, 1, 2, MAX}) {
            c.due("village " + v, x.halves(v, false), NONE);
            c.due("camp, village " + v, x.halves(v, true), NONE);
        }
    }

    static void promise25OnePerson(Check c) {
        halves(c, holding(5), 0, 1);
    }

    // "the camp (bits) with PERSON 0, of several the least"
    static void promise25LeastOfSeveral(Check c) {
        halves(c, holding(5, 5), 0, 1);
        halves(c, holding(NONE, NONE, NONE), 0, 1);
        halves(c, holding(0, 9, NONE), 9, 1);
        halves(c, holding(NONE, 0, 9), 9, 3);
        halves(c, holding(0, 9, 9), 18, 1);
        halves(c, holding(9, 9, 0), 18, 3);
        halves(c, holding(0, 9, 0, 9), 36, 5);
        halves(c, holding(0, 9, 9, 0), 36, 9);
    }

    static void promise25EightPeople(Check c) {
        halves(c, holding(0, 0, 0, 0, 9, 9, 9, 9), 144, 15);
        halves(c, holding(0, 9, 9, 9, 9, 9, 9, 9), 63, 1);
        halves(c, holding(9, 9, 9, 9, 9, 9, 9, 0), 63, 127);
        halves(c, holding(9, 0, 9, 0, 9, 0, 9, 0), 144, 85);
    }

    // "what BURNS by KEENEST of all couples of which one is in each"
    static void promise25ByTheKeenestAlone(Check c) {
        halves(c, "people 2;subject 1 1;subject 2 1;holds 0 0 0;holds 1 0 9;holds 0 1 0;holds 1 1 5;", 10, 1);
    }

    // ---- 26: circle

    private static void circle(Check c, String village, int... row) {
        QuarrelOvens x = Check.village(village);
        c.due("circle of " + village, x.circle(0, NONE), row.length);
        for (int k = 0; k < 9; k++) c.due("circle " + k + " of " + village, x.circle(0, k), k < row.length ? row[k] : NONE);
    }

    // "the longest row of unlike PEOPLE"
    static void promise26NobodyAndOne(Check c) {
        circle(c, "");
        circle(c, "people 1;", 0);
        circle(c, "people 8;", 0);
        circle(c, holding(5, 5, NONE), 0);
    }

    // "each of whom is APART on a SUBJECT from the next one"
    static void promise26ARowIsNoRing(Check c) {
        circle(c, holding(0, 9), 0, 1);
        circle(c, holding(9, 0, 9), 0, 1, 2);
        circle(c, holding(0, 9, 9), 1, 0, 2);
        circle(c, holding(0, 0, 0, 9), 0, 3, 1);
    }

    static void promise26OnUnlikeSubjects(Check c) {
        circle(c, "people 3;subject 1 1;subject 1 1;holds 0 0 1;holds 1 0 2;holds 1 1 1;holds 2 1 2;", 0, 1, 2);
    }

    static void promise26EightPeople(Check c) {
        circle(c, holding(0, 1, 2, 3, 4, 5, 6, 7), 0, 1, 2, 3, 4, 5, 6, 7);
        circle(c, holding(0, 0, 0, 0, 9, 9, 9, 9), 0, 4, 1, 5, 2, 6, 3, 7);
        circle(c, holding(9, 0, 0, 0, 0, 0, 0, 9), 1, 0, 2, 7, 3);
    }

    static void promise26OfOneVillageBehindAnother(Check c) {
        QuarrelOvens x = Check.village(holding(0, 5, 9));
        Check.tell(x, 0, NONE, holding(NONE, NONE, NONE, 4, 5));
        for (int i = 0; i < 4; i++) {
            c.due("how many of " + i % 2, x.circle(i % 2, NONE), 3 - i % 2);
            c.due("the first of " + i % 2, x.circle(i % 2, 0), 3 * (i % 2));
            c.due("trios of " + i % 2, x.kindred(i % 2, 2), 1 - i % 2);
            c.due("quiet of " + i % 2, x.quiet(i % 2), 7 * (i % 2));
        }
    }

    // "the first row by numbers"
    static void promise26FirstOfSeveral(Check c) {
        circle(c, holding(5, 5, NONE, 4, 6), 0, 3, 1, 4);
        circle(c, holding(NONE, 5, 6, 7), 1, 2, 3);
    }

    // "NONE: not so many, or there is none such."
    static void promise26NotSoManyOrNoneSuch(Check c) {
        QuarrelOvens x = Check.village(holding(0, 9, NONE));
        for (int k : new int[] {MIN, -3, -2, 2, 3, 8, MAX}) c.due("k " + k, x.circle(0, k), NONE);
        for (int v : new int[] {MIN, -2, -1, 1, 2, MAX}) {
            c.due("village " + v, x.circle(v, NONE), NONE);
            c.due("village " + v, x.circle(v, 0), NONE);
        }
    }

    // ---- 27: kindred

    private static void kindred(Check c, String village, int kins, int largest, int trios) {
        QuarrelOvens x = Check.village(village);
        c.due("kins of " + village, x.kindred(0, 0), kins);
        c.due("the largest of " + village, x.kindred(0, 1), largest);
        c.due("trios of " + village, x.kindred(0, 2), trios);
    }

    // "PEOPLE who HOLD the same of each SUBJECT (or both nothing) are of one kin"
    static void promise27NothingIsNotZero(Check c) {
        kindred(c, holding(0, NONE, 0, NONE, NONE), 2, 3, 0);
        kindred(c, holding(NONE, 0), 2, 1, 0);
    }

    static void promise27NobodyAndAll(Check c) {
        kindred(c, "", 0, 0, 0);
        kindred(c, "people 1;", 1, 1, 0);
        kindred(c, "people 8;", 1, 8, 0);
        kindred(c, holding(5, 5, 5, 5, 5, 5, 5, 5), 1, 8, 0);
        kindred(c, holding(0, 1, 2, 3, 4, 5, 6, NONE), 8, 1, 35);
    }

    static void promise27OfEachSubject(Check c) {
        kindred(c, "people 2;subject 1 1;subject 1 1;holds 0 0 1;holds 1 0 1;holds 0 1 2;holds 1 1 2;", 1, 2, 0);
        kindred(c, "people 2;subject 1 1;subject 1 1;holds 0 0 1;holds 1 0 1;holds 0 1 2;holds 1 1 3;", 2, 1, 0);
        kindred(c, "people 2;" + "subject 1 1;".repeat(6) + "holds 1 5 0;", 2, 1, 0);
    }

    // "TRIOS: of how many three PEOPLE each two are APART on a SUBJECT"
    static void promise27Trios(Check c) {
        kindred(c, holding(0, 9), 2, 1, 0);
        kindred(c, holding(0, 5, 9), 3, 1, 1);
        kindred(c, holding(0, 9, 9), 2, 2, 0);
        kindred(c, holding(9, 0, 9), 2, 2, 0);
        kindred(c, holding(9, 9, 0), 2, 2, 0);
        kindred(c, holding(0, 1, 2, 3, 4, 5, 6, 7), 8, 1, 56);
        kindred(c, "people 3;subject 1 1;subject 1 1;holds 0 0 1;holds 1 0 2;holds 2 0 2;holds 1 1 0;holds 2 1 1;", 3, 1, 1);
    }

    private static void ranked(Check c, String village, int... wants) {
        QuarrelOvens x = Check.village(village);
        for (int k = 0; k < wants.length; k++) c.due("ranked " + k + " of " + village, x.kindred(0, 10 + k), wants[k]);
        c.due("no further of " + village, x.kindred(0, 10 + wants.length), -2);
    }

    // "RANKED: .. the most first, of several the least number: the k-th"
    static void promise27Ranked(Check c) {
        ranked(c, "");
        ranked(c, "people 1;", 0);
        ranked(c, "people 8;", 0, 1, 2, 3, 4, 5, 6, 7);
        ranked(c, holding(4, 5, 9), 2, 0, 1);
        ranked(c, holding(5, 0, 9, 4), 1, 2, 0, 3);
        ranked(c, holding(5, 5, 5, 5, 5, 5, 5, 9), 7, 0, 1, 2, 3, 4, 5, 6);
    }

    // "-2: there is none such (of either), or for another what"
    static void promise27NoneSuch(Check c) {
        QuarrelOvens x = Check.village(holding(0, 9));
        for (int what : new int[] {MIN, MIN + 9, MIN + 10, -2, -1, 3, 4, 8, 9, 12, 13, 17, 18, 20, MAX}) c.due("what " + what, x.kindred(0, what), -2);
        for (int v : new int[] {MIN, -2, -1, 1, 2, MAX}) for (int what : new int[] {0, 1, 2, 10}) c.due("village " + v, x.kindred(v, what), -2);
    }

    // ---- 28: mean

    private static void mean(Check c, String village, int subject, long above, long below) {
        QuarrelOvens x = Check.village(village);
        c.due("mean of " + village, x.mean(0, subject, false), above);
        c.due("mean under of " + village, x.mean(0, subject, true), below);
    }

    // "NONE: fewer than two HOLD something of it"
    static void promise28FewerThanTwo(Check c) {
        mean(c, holding(), 0, NONE, NONE);
        mean(c, holding(5), 0, NONE, NONE);
        mean(c, holding(NONE, NONE, NONE), 0, NONE, NONE);
        mean(c, holding(NONE, 5, NONE), 0, NONE, NONE);
        mean(c, holding(5, NONE, 5), 0, 0, 1);
        mean(c, holding(NONE, 5, 9), 0, 4, 1);
    }

    // "what all couples who both HOLD something of it BURN, in the mean, a fraction in least terms"
    static void promise28LeastTerms(Check c) {
        mean(c, holding(3, 3, 3), 0, 0, 1);
        mean(c, holding(0, 0, 1), 0, 2, 3);
        mean(c, holding(0, 1, 2, NONE), 0, 4, 3);
        mean(c, holding(0, 3, 9), 0, 6, 1);
        mean(c, holding(0, 0, 0, 0, 0, 0, 0, 1), 0, 1, 4);
        mean(c, holding(0, 0, 0, 0, 0, 0, 0, 9), 0, 9, 4);
        mean(c, "people 2;subject 9 1;holds 0 0 0;holds 1 0 9;", 0, 81, 1);
    }

    // "or there is none such (of either)"
    static void promise28NoneSuch(Check c) {
        QuarrelOvens x = Check.village(holding(0, 9));
        for (int wrong : new int[] {MIN, -2, -1, 1, 2, 6, MAX}) {
            for (int i = 0; i < 2; i++) {
                c.due("village " + wrong, x.mean(wrong, 0, i == 0), NONE);
                c.due("subject " + wrong, x.mean(0, wrong, i == 0), NONE);
            }
        }
        mean(c, "people 2;", 0, NONE, NONE);
    }

    // ---- 29: after

    /** 0 and 1 BURN 6, then 3; 1 and 2 BURN 12, then 6. */
    private static final String THREE = "people 3;cools 1;subject 2 1;hearth 4 8;holds 0 0 0;holds 1 0 3;holds 2 0 9;";

    private static void after(Check c, String village, String day, int hottest, int loudest, int split, int cosy) {
        QuarrelOvens x = Check.day(village, day);
        int[] wants = {hottest, loudest, split, cosy};
        for (int what = 0; what < 4; what++) c.due("after '" + day + "', what " + what, x.after(0, 0, what), wants[what]);
    }

    // "behind all DEEDS up to STOP"
    static void promise29UpToStop(Check c) {
        after(c, THREE, "", 0, NONE, NONE, 0);
        after(c, THREE, "hour;", 0, NONE, NONE, 0);
        after(c, THREE, "quarrel 0 1 1 0;quarrel 0 1 0 0;", 0, NONE, NONE, 0);
        after(c, THREE, "quarrel 0 1 0 0;quarrel 0 1 0 0;hour;hour;", 6, 0, NONE, 1);
        after(c, THREE, "hour;".repeat(39) + "quarrel 0 1 0 0;", 6, 0, NONE, 1);
        after(c, THREE, "hour;".repeat(39) + "quarrel 2 1 0 0;", 0, 1, 39, 0);
    }

    // "HOTTEST: the most WARM any HEARTH had in any STATE"
    static void promise29HottestInAnyState(Check c) {
        after(c, THREE, "quarrel 0 1 0 0;hour;hour;hour;hour;hour;hour;hour;", 6, 0, NONE, 3);
        after(c, THREE.replace("hearth 4 8", "hearth 1 9;hearth 1 12"), "quarrel 1 2 0 1;hour;quarrel 0 1 0 0;", 12, 1, NONE, 1);
        after(c, THREE.replace("4 8", "4 12"), "quarrel 1 2 0 0;", 12, 1, NONE, 1);
        after(c, THREE.replace("4 8", "4 11"), "quarrel 1 2 0 0;", 0, 1, 0, 0);
    }

    // "LOUDEST: who quarrelled most often, of several the least (none)"
    static void promise29LoudestTheLeastOfSeveral(Check c) {
        String warm = THREE.replace("4 8", "60 99");
        after(c, warm, "quarrel 2 1 0 0;", 12, 1, NONE, 0);
        after(c, warm, "quarrel 2 1 0 0;hour;quarrel 2 0 0 0;", 20, 2, NONE, 0);
        after(c, warm, "hour;agree 0 1 0;deny 0 1 0;news 0 0;", 0, NONE, NONE, 0);
        after(c, "people 8;subject 1 1;hearth 1 9;holds 6 0 0;holds 7 0 1;", "quarrel 7 6 0 0;", 1, 6, NONE, 1);
    }

    // "SPLIT: the DEED (from 0 on) by which the first HEARTH CRACKED (none)"
    static void promise29SplitByTheFirst(Check c) {
        after(c, THREE, "quarrel 1 2 0 0;", 0, 1, 0, 0);
        after(c, THREE, "hour;hour;quarrel 1 2 0 0;hour;", 0, 1, 2, 0);
        after(c, THREE.replace("4 8", "1 1;hearth 1 1"), "quarrel 1 2 0 1;hour;quarrel 1 2 0 0;", 0, 1, 0, 0);
        after(c, THREE.replace("4 8", "1 18"), "quarrel 1 2 0 0;hour;quarrel 1 2 0 0;", 17, 1, NONE, 3);
        after(c, THREE.replace("4 8", "1 16"), "quarrel 1 2 0 0;hour;quarrel 1 2 0 0;", 12, 1, 2, 2);
    }

    // "COSY: in how many STATES all HEARTHS had what they WANT or more"
    static void promise29CosyWhatTheyWantOrMore(Check c) {
        after(c, THREE.replace("4 8", "6 8"), "quarrel 0 1 0 0;hour;", 6, 0, NONE, 1);
        after(c, THREE.replace("4 8", "7 8"), "quarrel 0 1 0 0;hour;", 6, 0, NONE, 0);
        after(c, THREE.replace("4 8", "5 8"), "quarrel 0 1 0 0;hour;", 6, 0, NONE, 2);
        after(c, THREE.replace("4 8", "5 8;hearth 1 9"), "quarrel 0 1 0 0;hour;", 6, 0, NONE, 0);
    }

    static void promise29OfOneDayBehindAnother(Check c) {
        QuarrelOvens x = Check.day(THREE.replace("4 8", "4 12"), "quarrel 1 2 0 0;hour;quarrel 1 2 0 0;");
        Check.tell(x, 1, NONE, "hour;quarrel 0 1 0 0;");
        int[][] wants = {{12, 1, 2, 2}, {6, 0, NONE, 1}};
        for (int i = 0; i < 6; i++) {
            for (int what = 0; what < 4; what++) c.due("day " + i % 2 + ", what " + what, x.after(0, i % 2, what), wants[i % 2][what]);
        }
    }

    static void promise29WithoutHearthsEachStateIsCosy(Check c) {
        after(c, "", "", 0, NONE, NONE, 1);
        after(c, "", "hour;".repeat(40), 0, NONE, NONE, 41);
    }

    // "-2: there is none such (of either), or for another what"
    static void promise29NoneSuch(Check c) {
        QuarrelOvens x = Check.day(THREE, "hour;");
        for (int wrong : new int[] {MIN, -2, -1, 1, 2, MAX}) {
            for (int what = 0; what < 4; what++) {
                c.due("village " + wrong, x.after(wrong, 0, what), -2);
                c.due("day " + wrong, x.after(0, wrong, what), -2);
            }
        }
        for (int what : new int[] {MIN, -2, -1, 4, 5, MAX}) c.due("what " + what, x.after(0, 0, what), -2);
    }

    // ---- 30: next

    private static void next(Check c, String village, String log, int a, int b, int least, int most) {
        QuarrelOvens x = Check.log(village, log);
        c.due("least of " + log, x.next(0, 0, a, b, false), least);
        c.due("most of " + log, x.next(0, 0, a, b, true), most);
    }

    /** HEAT 9, 8, .. of one SUBJECT, 0 and 1 are 1 APART, 2 HOLDS nothing. */
    private static final String NINE = "people 3;subject 9 1;holds 0 0 0;holds 1 0 1;";

    // "the least, the most that it would BURN, if they quarrelled next on it, by any that FITS"
    static void promise30LeastAndMost(Check c) {
        next(c, NINE, "", 0, 1, 0, 9);
        next(c, NINE, "burned 0 1 9;", 0, 1, 8, 8);
        next(c, NINE, "burned 0 1 1;", 1, 0, 0, 0);
        next(c, NINE, "burned 0 1 0;".repeat(8), 0, 1, 0, 0);
        next(c, NINE, "burned 0 2 0;", 0, 1, 0, 8);
        next(c, NINE.replace("holds 1 0 1", "holds 1 0 9"), "", 0, 1, 0, 81);
    }

    static void promise30OnTheLastSubject(Check c) {
        next(c, "people 2;" + "subject 9 1;".repeat(6) + "holds 0 5 0;holds 1 5 1;", "burned 0 1 5;", 0, 1, 4, 4);
    }

    static void promise30TwoWhoDoNotBothHoldSomething(Check c) {
        next(c, NINE, "burned 0 1 9;", 0, 2, 0, 0);
        next(c, NINE, "", 2, 1, 0, 0);
    }

    // "NONE: nothing FITS"
    static void promise30NothingFits(Check c) {
        next(c, NINE, "burned 0 1 99;", 0, 1, NONE, NONE);
        next(c, "people 2;", "", 0, 1, NONE, NONE);
    }

    // "they are one"
    static void promise30TheyAreOne(Check c) {
        for (int p = 0; p < 3; p++) next(c, NINE, "", p, p, NONE, NONE);
    }

    // "as -2 of fits()"
    static void promise30APersonIsNotThere(Check c) {
        next(c, NINE, "burned 0 3 0;", 0, 1, NONE, NONE);
        next(c, NINE, "burned 3 0 0;", 0, 1, NONE, NONE);
        next(c, NINE, "burned 0 1 9;burned 0 3 0;", 0, 1, NONE, NONE);
    }

    // "or there is none such (of any)"
    static void promise30NoneSuch(Check c) {
        QuarrelOvens x = Check.log(NINE, "burned 0 1 9;");
        for (int wrong : new int[] {MIN, -2, -1, 3, 8, MAX}) {
            for (int i = 0; i < 2; i++) {
                c.due("village " + wrong, x.next(wrong, 0, 0, 1, i == 0), NONE);
                c.due("log " + wrong, x.next(0, wrong, 0, 1, i == 0), NONE);
                c.due("first " + wrong, x.next(0, 0, wrong, 1, i == 0), NONE);
                c.due("second " + wrong, x.next(0, 0, 0, wrong, i == 0), NONE);
            }
        }
        c.due("the next village", x.next(1, 0, 0, 1, true), NONE);
        c.due("the next log", x.next(0, 1, 0, 1, true), NONE);
    }

    // ---- 31: farthest

    private static void farthest(Check c, String village, int couple, int apart) {
        QuarrelOvens x = Check.village(village);
        c.due("farthest of " + village, x.farthest(0, 0, false), couple);
        c.due("how far of " + village, x.farthest(0, 0, true), apart);
    }

    // "of several the first by numbers"
    static void promise31FirstOfSeveral(Check c) {
        farthest(c, holding(5, 5, 5), 1, 0);
        farthest(c, holding(NONE, 5, NONE, 5), 13, 0);
        farthest(c, holding(0, 5, 9, 9), 2, 9);
        farthest(c, holding(5, 0, 9, 9), 12, 9);
        farthest(c, holding(0, 0, 4, 4), 2, 4);
        farthest(c, holding(NONE, NONE, NONE, NONE, NONE, NONE, 9, 0), 67, 9);
    }

    // how far, not how it burns
    static void promise31HowFarIsWithoutHeat(Check c) {
        farthest(c, "people 2;subject 9 1;holds 0 0 0;holds 1 0 9;", 1, 9);
    }

    // "NONE: fewer than two HOLD something of it"
    static void promise31FewerThanTwo(Check c) {
        farthest(c, holding(), NONE, NONE);
        farthest(c, holding(5), NONE, NONE);
        farthest(c, holding(NONE, 5, NONE), NONE, NONE);
        farthest(c, holding(NONE, NONE), NONE, NONE);
    }

    // "or there is none such (of either)"
    static void promise31NoneSuch(Check c) {
        QuarrelOvens x = Check.village(holding(0, 9));
        for (int wrong : new int[] {MIN, -2, -1, 1, 2, 6, MAX}) {
            for (int i = 0; i < 2; i++) {
                c.due("village " + wrong, x.farthest(wrong, 0, i == 0), NONE);
                c.due("subject " + wrong, x.farthest(0, wrong, i == 0), NONE);
            }
        }
        farthest(c, "people 2;", NONE, NONE);
    }

    // ---- 32: quiet

    // "PEOPLE (bits) who are APART from nobody on any SUBJECT"
    static void promise32NobodyAndAll(Check c) {
        c.due("nobody there", Check.village("").quiet(0), 0);
        c.due("one", Check.village("people 1;").quiet(0), 1);
        c.due("eight", Check.village("people 8;").quiet(0), 255);
        c.due("all hold the same", Check.village(holding(5, 5, 5)).quiet(0), 7);
        c.due("none is quiet", Check.village(holding(5, 5, 4)).quiet(0), 0);
        c.due("those who hold nothing", Check.village(holding(NONE, 5, NONE, 4, NONE)).quiet(0), 21);
        c.due("on the second subject", Check.village("people 2;subject 1 1;subject 1 1;holds 0 0 5;holds 1 0 5;holds 0 1 0;holds 1 1 1;").quiet(0), 0);
    }

    // "NONE: there is none such."
    static void promise32NoneSuch(Check c) {
        QuarrelOvens x = Check.village(holding(0, 9));
        for (int v : new int[] {MIN, -2, -1, 1, 2, MAX}) c.due("village " + v, x.quiet(v), NONE);
    }

    // ---- 33: count

    // "How many there are of a sort. -2 for another one."
    static void promise33NoneToTwo(Check c) {
        for (int sort = 0; sort < 3; sort++) {
            QuarrelOvens x = new QuarrelOvens();
            for (int told = 0; told < 4; told++) {
                c.due("count " + sort, x.count(sort), Math.min(2, told));
                Check.tell(x, sort, NONE, "");
            }
        }
    }

    static void promise33AnotherSort(Check c) {
        QuarrelOvens x = Check.day("", "");
        for (int sort : new int[] {MIN, -2, -1, 3, 4, MAX}) c.due("count " + sort, x.count(sort), -2);
    }

    // ---- 34: image

    // "Image k (0 .. 2) ..: true; false for another k."
    static void promise34AnotherK(Check c) {
        QuarrelOvens x = new QuarrelOvens();
        for (int k : new int[] {MIN, -2, -1, 3, 4, MAX}) c.due("image " + k, x.image(k), false);
        for (int k = 0; k < 3; k++) c.due("no image by another k", x.again(k), false);
        for (int k = 0; k < 3; k++) c.due("image " + k, x.image(k), true);
    }

    static void promise34OfANewObject(Check c) {
        QuarrelOvens x = new QuarrelOvens();
        x.image(2);
        Check.tell(x, 0, NONE, "people 8;");
        Check.tell(x, 1, NONE, "hour;");
        Check.tell(x, 2, NONE, "");
        x.feed(0, 0, 0, 0, 0);
        c.due("again", x.again(2), true);
        for (int sort = 0; sort < 3; sort++) c.due("count " + sort, x.count(sort), 0);
        c.due("no village", x.village(0, 0), -2);
        c.due("an empty tape", x.end(1), NONE);
    }

    // "all that is told (the tape, the FAULT, too), as it is now"
    static void promise34TheTapeToo(Check c) {
        QuarrelOvens x = new QuarrelOvens();
        Check.feed(x, "hour;hour;");
        x.image(0);
        x.end(5);
        x.feed(0x78787878, 0x78787878, 0x78787878, 0x78787878, 0x78787878);
        x.again(0);
        c.due("its length", x.end(11), NONE);
        c.due("its text", x.text(1, NONE), 0);
        c.due("its deeds", x.deed(0, NONE, 0), 2);
    }

    static void promise34AFullTape(Check c) {
        QuarrelOvens x = new QuarrelOvens();
        Check.feed(x, " ".repeat(595) + "hour;");
        x.image(1);
        x.end(0);
        for (int i = 0; i < 30; i++) x.feed(0x78787878, 0x78787878, 0x78787878, 0x78787878, 0x78787878);
        x.again(1);
        c.due("full", x.feed(0, 0, 0, 0, 0), NONE);
        c.due("its text", x.text(1, NONE), 0);
        c.due("its deed", x.deed(0, 0, 0), 4);
    }

    static void promise34TheFaultToo(Check c) {
        QuarrelOvens x = new QuarrelOvens();
        Check.tell(x, 0, NONE, "people 9;");
        x.image(0);
        Check.tell(x, 0, NONE, "");
        x.image(1);
        x.again(0);
        c.due("fault", x.fault(0), 2);
        c.due("place", x.fault(1), 7);
        x.again(1);
        c.due("no fault", x.fault(0), 0);
        c.due("no place", x.fault(1), NONE);
    }

    static void promise34EachOfTwoOfEachSort(Check c) {
        QuarrelOvens x = new QuarrelOvens();
        for (int i = 1; i <= 2; i++) {
            Check.tell(x, 0, NONE, "people " + i + ";cools " + i + ";subject " + i + " " + i + ";hearth " + i + " " + i + ";holds 0 0 " + i + ";");
            Check.tell(x, 1, NONE, "news 0 " + i + ";");
            Check.tell(x, 2, NONE, "burned 0 1 " + i + ";");
        }
        x.image(0);
        for (int i = 0; i < 2; i++) for (int sort = 0; sort < 3; sort++) Check.tell(x, sort, i, "");
        x.again(0);
        for (int i = 0; i < 2; i++) {
            for (int what : new int[] {0, 3, 10, 20, 30, 40, 100}) c.due("village " + i + ", " + what, x.village(i, what), i + 1);
            c.due("subjects", x.village(i, 1), 1);
            c.due("hearths", x.village(i, 2), 1);
            c.due("day " + i, x.deed(i, 0, 2), i + 1);
            c.due("log " + i, x.fact(i, 0, 2), i + 1);
        }
    }

    // "as it is now": what comes later is not in it
    static void promise34WhatComesLaterIsNotInIt(Check c) {
        QuarrelOvens x = Check.village("people 1;");
        x.image(0);
        Check.tell(x, 0, 0, "people 2;");
        Check.tell(x, 0, NONE, "people 3;");
        x.again(0);
        c.due("as it was", x.village(0, 0), 1);
        c.due("one", x.count(0), 1);
    }

    static void promise34AnImageStrikesTheOneBefore(Check c) {
        QuarrelOvens x = Check.village("people 1;");
        x.image(0);
        Check.tell(x, 0, 0, "people 2;");
        c.due("again an image", x.image(0), true);
        Check.tell(x, 0, 0, "people 3;");
        x.again(0);
        c.due("the later one", x.village(0, 0), 2);
    }

    static void promise34ThreeImages(Check c) {
        QuarrelOvens x = Check.village("");
        for (int k = 0; k < 3; k++) {
            Check.tell(x, 0, 0, "people " + (k + 1) + ";");
            x.image(k);
        }
        for (int k = 2; k >= 0; k--) {
            x.again(k);
            c.due("image " + k, x.village(0, 0), k + 1);
        }
    }

    // ---- 35: again

    // "false if there is none such"
    static void promise35NoneSuch(Check c) {
        QuarrelOvens x = Check.village("people 1;");
        x.image(1);
        Check.tell(x, 0, 0, "people 2;");
        for (int k : new int[] {MIN, -2, -1, 0, 2, 3, 4, MAX}) {
            c.due("again " + k, x.again(k), false);
            c.due("all is as it was", x.village(0, 0), 2);
        }
        c.due("again 1", x.again(1), true);
    }

    // "All that is as image k has it (other images stay)"
    static void promise35OtherImagesStay(Check c) {
        QuarrelOvens x = new QuarrelOvens();
        x.image(0);
        Check.tell(x, 0, NONE, "people 1;");
        x.image(1);
        x.again(0);
        c.due("none", x.count(0), 0);
        c.due("the later image stays", x.again(1), true);
        c.due("one", x.count(0), 1);
        c.due("its people", x.village(0, 0), 1);
        c.due("the earlier image stays", x.again(0), true);
        c.due("none", x.count(0), 0);
    }

    static void promise35TheImageItselfStays(Check c) {
        QuarrelOvens x = Check.day("people 1;subject 1 1;holds 0 0 5;", "hour;");
        x.image(0);
        for (int i = 0; i < 3; i++) {
            c.due("again", x.again(0), true);
            c.due("its people", x.village(0, 0), 1);
            c.due("what is held", x.village(0, 100), 5);
            c.due("its deeds", x.deed(0, NONE, 0), 1);
            Check.tell(x, 0, 0, "people 2;subject 1 1;holds 0 0 6;");
            Check.tell(x, 1, 0, "");
        }
    }

    static void promise35ImagesAreNotOfAnImage(Check c) {
        QuarrelOvens x = new QuarrelOvens();
        x.image(0);
        x.image(1);
        x.again(0);
        c.due("made later, and stays", x.again(1), true);
        c.due("never made", x.again(2), false);
    }
}
