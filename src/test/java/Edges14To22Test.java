/** Promises 14 to 22: a test for each sentence that names a boundary case. */
final class Edges14To22Test {
    private static final int NONE = QuarrelOvens.NONE;
    private static final int MIN = Integer.MIN_VALUE;
    private static final int MAX = Integer.MAX_VALUE;

    public static void main(String[] args) {
        Check.runAll(Edges14To22Test.class);
    }

    // ---- 14: plan

    /** 0 and 1 BURN 5 on SUBJECT 0, and nothing else BURNS. */
    private static final String FIVE = "people 2;subject 1 1;holds 0 0 0;holds 1 0 5;";

    private static void plan(Check c, String village, int... wants) {
        QuarrelOvens x = Check.village(village);
        for (int k = -1; k < wants.length - 1; k++) c.due("plan " + k + " of " + village, x.plan(0, k), wants[k + 1]);
    }

    // "that it BURNS what it WANTS or more"
    static void promise14WhatItWantsOrMore(Check c) {
        plan(c, FIVE + "hearth 4 9;", 5, 1);
        plan(c, FIVE + "hearth 5 9;", 5, 1);
        plan(c, FIVE + "hearth 6 9;", NONE, NONE);
    }

    // "and no more than CRACKS"
    static void promise14NoMoreThanCracks(Check c) {
        plan(c, FIVE + "hearth 1 6;", 5, 1);
        plan(c, FIVE + "hearth 1 5;", 5, 1);
        plan(c, FIVE + "hearth 1 4;", NONE, NONE);
        plan(c, FIVE + "hearth 5 5;", 5, 1);
    }

    // "nobody at two"
    static void promise14NobodyAtTwo(Check c) {
        String three = "people 3;subject 1 1;subject 1 1;hearth 1 9;hearth 1 9;holds 0 0 0;holds 1 0 5;holds 1 1 0;holds 2 1 5;";
        plan(c, three, NONE, NONE, NONE);
        plan(c, three.replace("people 3", "people 4").replace("holds 1 1", "holds 3 1"), 10, 1, 123);
    }

    // "no SUBJECT at two"
    static void promise14NoSubjectAtTwo(Check c) {
        String four = "people 4;subject 1 1;subject 1 1;hearth 1 9;hearth 1 9;holds 0 0 0;holds 1 0 5;holds 2 0 0;holds 3 0 5;";
        plan(c, four, NONE, NONE, NONE);
        plan(c, four + "holds 2 1 0;holds 3 1 5;", 10, 1, 123);
    }

    // "so that what BURNS at all of them together is least"
    static void promise14LeastOfAllTogether(Check c) {
        String four = "people 4;subject 1 1;subject 1 1;holds 0 0 0;holds 1 0 4;holds 2 1 0;holds 3 1 6;";
        plan(c, four + "hearth 1 9;", 4, 1);
        plan(c, four + "hearth 5 9;", 6, 123);
        plan(c, four + "hearth 1 9;hearth 1 5;", 10, 123, 1);
    }

    // "of several the first row by HEARTHS, by numbers (100 times the SUBJECT, 10 times the lesser PERSON, and the other one)"
    static void promise14FirstOfSeveral(Check c) {
        plan(c, "people 4;subject 1 1;subject 1 1;hearth 1 9;holds 2 0 0;holds 3 0 4;holds 0 1 0;holds 1 1 4;", 4, 23);
        plan(c, "people 4;subject 1 1;hearth 1 9;holds 0 0 0;holds 1 0 4;holds 2 0 4;holds 3 0 8;", 4, 1);
        plan(c, "people 4;subject 1 1;subject 1 1;hearth 1 9;hearth 1 9;holds 0 0 0;holds 1 0 4;holds 2 1 0;holds 3 1 4;", 8, 1, 123);
        plan(c, "people 4;subject 1 1;subject 1 1;hearth 1 9;hearth 1 3;holds 0 0 0;holds 1 0 4;holds 2 1 0;holds 3 1 3;", 7, 1, 123);
        plan(c, "people 4;subject 1 1;hearth 1 9;holds 0 0 9;holds 3 0 0;", 9, 3);
    }

    static void promise14AtFourHearths(Check c) {
        StringBuilder eight = new StringBuilder("people 8;" + "subject 1 1;".repeat(4));
        for (int i = 0; i < 4; i++) eight.append("hearth " + (i + 1) + " " + (i + 1) + ";holds " + 2 * i + " " + i + " 0;holds " + (2 * i + 1) + " " + i + " " + (i + 1) + ";");
        plan(c, eight.toString(), 10, 1, 123, 245, 367);
        plan(c, eight.toString().replace("hearth 4 4", "hearth 5 5"), NONE, NONE, NONE, NONE, NONE);
    }

    static void promise14FirstPersonAndLastSubject(Check c) {
        plan(c, "people 4;" + "subject 1 1;".repeat(6) + "hearth 4 4;hearth 5 5;holds 2 5 0;holds 3 5 4;holds 0 0 0;holds 1 0 5;", 9, 523, 1);
        plan(c, "people 8;" + "subject 1 1;".repeat(6) + "hearth 4 4;hearth 5 5;holds 0 5 0;holds 7 5 4;holds 1 0 0;holds 6 0 5;", 9, 507, 16);
    }

    static void promise14OfOneVillageBehindAnother(Check c) {
        QuarrelOvens x = Check.village(FIVE + "hearth 1 9;");
        Check.tell(x, 0, NONE, "people 4;subject 1 1;holds 2 0 0;holds 3 0 6;hearth 1 9;");
        for (int i = 0; i < 3; i++) {
            c.due("plan of the first", x.plan(0, NONE), 5);
            c.due("row of the first", x.plan(0, 0), 1);
            c.due("plan of the second", x.plan(1, NONE), 6);
            c.due("row of the second", x.plan(1, 0), 23);
        }
    }

    static void promise14AsHotAsCanBe(Check c) {
        plan(c, "people 2;subject 9 1;hearth 60 81;holds 0 0 0;holds 1 0 9;", 81, 1);
        plan(c, "people 2;subject 9 1;hearth 60 80;holds 0 0 0;holds 1 0 9;", NONE, NONE);
    }

    // "NONE: there is no such row"
    static void promise14NoSuchRow(Check c) {
        plan(c, "hearth 1 9;", NONE, NONE);
        plan(c, "people 8;hearth 1 9;", NONE, NONE);
        plan(c, "people 2;subject 1 1;hearth 1 9;holds 0 0 3;holds 1 0 3;", NONE, NONE);
        plan(c, FIVE + "hearth 1 9;hearth 1 9;", NONE, NONE, NONE);
    }

    static void promise14WithoutHearthsTheRowIsEmpty(Check c) {
        plan(c, "", 0, NONE);
        plan(c, FIVE, 0, NONE);
    }

    // "no such HEARTH, or there is none such"
    static void promise14NoSuchHearthOrVillage(Check c) {
        QuarrelOvens x = Check.village(FIVE + "hearth 1 9;");
        for (int k : new int[] {MIN, -3, -2, 1, 2, 3, 4, MAX}) c.due("hearth " + k, x.plan(0, k), NONE);
        for (int v : new int[] {MIN, -2, -1, 1, 2, MAX}) {
            c.due("village " + v, x.plan(v, NONE), NONE);
            c.due("village " + v, x.plan(v, 0), NONE);
        }
    }

    // ---- 15: married

    private static void married(Check c, String village, int most, int... wants) {
        QuarrelOvens x = Check.village(village);
        c.due("most of " + village, x.married(0, NONE), most);
        for (int p = 0; p < wants.length; p++) c.due("married " + p + " of " + village, x.married(0, p), wants[p]);
    }

    // "as long as that is above 0"; "(none: none)"
    static void promise15AsLongAsItIsAbove0(Check c) {
        married(c, "people 4;subject 1 1;holds 0 0 3;holds 1 0 3;holds 2 0 3;holds 3 0 3;", 0, NONE, NONE, NONE, NONE);
        married(c, "people 2;subject 1 1;holds 0 0 3;holds 1 0 4;", 1, 1, 0);
        married(c, "people 4;subject 1 1;holds 2 0 3;holds 3 0 4;", 1, NONE, NONE, 3, 2);
    }

    static void promise15OneIsLeft(Check c) {
        married(c, "people 1;subject 1 1;holds 0 0 3;", 0, NONE);
        married(c, "people 3;subject 1 1;holds 0 0 0;holds 1 0 5;holds 2 0 9;", 9, 2, NONE, 0);
    }

    // "of several the first by numbers (the lesser one first)"
    static void promise15FirstOfSeveral(Check c) {
        married(c, "people 3;subject 1 1;holds 0 0 0;holds 1 0 5;holds 2 0 5;", 5, 1, 0, NONE);
        married(c, "people 3;subject 1 1;holds 0 0 5;holds 1 0 5;holds 2 0 0;", 5, 2, NONE, 0);
        married(c, "people 4;subject 1 1;holds 0 0 0;holds 1 0 0;holds 2 0 5;holds 3 0 5;", 10, 2, 3, 0, 1);
        married(c, "people 4;subject 1 1;subject 1 1;holds 0 0 0;holds 3 0 3;holds 1 1 0;holds 2 1 3;", 6, 3, 2, 1, 0);
    }

    static void promise15EightPeople(Check c) {
        StringBuilder eight = new StringBuilder("people 8;subject 1 1;");
        for (int p = 0; p < 8; p++) eight.append("holds " + p + " 0 " + p + ";");
        married(c, eight.toString(), 4 + 5 + 6 + 7 - 0 - 1 - 2 - 3, 7, 6, 5, 4, 3, 2, 1, 0);
    }

    // "MOST: the most that couples can have TOGETHER in all, nobody in two"
    static void promise15MostIsMoreThanByMarriage(Check c) {
        married(c, "people 4;subject 1 1;subject 1 1;subject 1 1;holds 0 0 0;holds 1 0 5;holds 1 1 0;holds 2 1 6;holds 2 2 0;holds 3 2 5;",
            10, NONE, 2, 1, NONE);
    }

    static void promise15MostOfNobody(Check c) {
        married(c, "", 0);
        married(c, "people 8;", 0, NONE, NONE, NONE, NONE, NONE, NONE, NONE, NONE);
    }

    // "-2: there is none such (of either)."
    static void promise15NoneSuch(Check c) {
        QuarrelOvens x = Check.village("people 3;subject 1 1;holds 0 0 3;holds 1 0 4;");
        for (int p : new int[] {MIN, -3, -2, 3, 8, MAX}) c.due("person " + p, x.married(0, p), -2);
        for (int v : new int[] {MIN, -2, -1, 1, 2, MAX}) {
            c.due("village " + v, x.married(v, NONE), -2);
            c.due("village " + v, x.married(v, 0), -2);
        }
        c.due("nobody there", Check.village("").married(0, 0), -2);
    }

    // ---- 16: hopes

    private static String fading(int heat, int fades, int apart) {
        return "people 3;subject " + heat + " " + fades + ";holds 0 0 0;holds 1 0 " + apart + ";";
    }

    private static void hopes(Check c, QuarrelOvens x, int p, long above, long below) {
        c.due("hopes, p " + p, x.hopes(0, 0, 1, 0, p, false), above);
        c.due("hopes under, p " + p, x.hopes(0, 1, 0, 0, p, true), below);
    }

    // "p, 0 .. 10"
    static void promise16NeverAndAlways(Check c) {
        QuarrelOvens x = Check.village(fading(9, 1, 9));
        hopes(c, x, 0, 405, 1);
        hopes(c, x, 10, 81, 1);
    }

    // "NONE: another p"
    static void promise16AnotherP(Check c) {
        QuarrelOvens x = Check.village(fading(9, 1, 9));
        for (int p : new int[] {MIN, -2, -1, 11, 12, MAX}) hopes(c, x, p, NONE, NONE);
    }

    // "a fraction in least terms"
    static void promise16LeastTerms(Check c) {
        QuarrelOvens x = Check.village(fading(4, 3, 5));
        hopes(c, x, 1, 49, 2);
        hopes(c, x, 2, 24, 1);
        hopes(c, x, 5, 45, 2);
        hopes(c, x, 9, 41, 2);
    }

    static void promise16AllNineQuarrels(Check c) {
        // the sum of (9 - i) (9/10)^i is 90 (9/10)^9
        hopes(c, Check.village(fading(9, 1, 1)), 1, 3486784401L, 100000000L);
        hopes(c, Check.village(fading(9, 1, 9)), 1, 31381059609L, 100000000L);
    }

    static void promise16OneQuarrel(Check c) {
        QuarrelOvens x = Check.village(fading(7, 7, 3));
        for (int p = 0; p <= 10; p++) hopes(c, x, p, 21, 1);
    }

    static void promise16NotApartIs0(Check c) {
        QuarrelOvens x = Check.village(fading(9, 1, 0));
        for (int p = 0; p <= 10; p++) hopes(c, x, p, 0, 1);
    }

    // "or as apart()"
    static void promise16AsApart(Check c) {
        QuarrelOvens x = Check.village(fading(9, 1, 9));
        for (int i = 0; i < 2; i++) {
            boolean under = i == 1;
            c.due("one", x.hopes(0, 0, 0, 0, 5, under), NONE);
            c.due("nothing held", x.hopes(0, 0, 2, 0, 5, under), NONE);
            c.due("nothing held", x.hopes(0, 2, 0, 0, 5, under), NONE);
            for (int wrong : new int[] {MIN, -2, -1, 3, 8, MAX}) {
                c.due("village", x.hopes(wrong, 0, 1, 0, 5, under), NONE);
                c.due("first", x.hopes(0, wrong, 1, 0, 5, under), NONE);
                c.due("second", x.hopes(0, 0, wrong, 0, 5, under), NONE);
                c.due("subject", x.hopes(0, 0, 1, wrong, 5, under), NONE);
            }
            c.due("the next subject", x.hopes(0, 0, 1, 1, 5, under), NONE);
        }
    }

    // ---- 17: fact

    // "How many FACTS (k NONE, what 0)"; "at most 8"
    static void promise17HowMany(Check c) {
        c.due("none", Check.log("", "").fact(0, NONE, 0), 0);
        c.due("the same twice", Check.log("", "burned 0 1 2;burned 0 1 2;").fact(0, NONE, 0), 2);
        c.due("eight", Check.log("", "burned 0 1 2;".repeat(8)).fact(0, NONE, 0), 8);
    }

    static void promise17LastOfEight(Check c) {
        QuarrelOvens x = Check.log("", "burned 0 1 0;".repeat(7) + "burned 7 6 99;");
        int[] wants = {7, 6, 99};
        for (int what = 0; what < 3; what++) c.due("what " + what, x.fact(0, 7, what), wants[what]);
        c.due("the one before", x.fact(0, 6, 2), 0);
        c.due("no ninth", x.fact(0, 8, 0), -2);
    }

    // "-2: there is none such (of either)"
    static void promise17NoSuchFactOrLog(Check c) {
        QuarrelOvens x = Check.log("", "burned 0 1 2;burned 3 4 5;");
        for (int k : new int[] {MIN, -3, -2, 2, 3, 8, MAX}) {
            for (int what = 0; what < 3; what++) c.due("fact " + k, x.fact(0, k, what), -2);
        }
        for (int log : new int[] {MIN, -2, -1, 1, 2, MAX}) {
            c.due("how many, log " + log, x.fact(log, NONE, 0), -2);
            c.due("fact, log " + log, x.fact(log, 0, 0), -2);
        }
        c.due("of an empty log", Check.log("", "").fact(0, 0, 0), -2);
    }

    // "or for another what"
    static void promise17AnotherWhat(Check c) {
        QuarrelOvens x = Check.log("", "burned 0 1 2;burned 3 4 5;");
        for (int what : new int[] {MIN, -2, -1, 3, 4, MAX}) c.due("what " + what, x.fact(0, 0, what), -2);
        for (int what : new int[] {MIN, -2, -1, 1, 2, 3, MAX}) c.due("how many, what " + what, x.fact(0, NONE, what), -2);
    }

    // ---- 18: fits

    /** HEAT 9, 8, .. 1, 0, .. of one SUBJECT, 0 and 1 are 1 APART, 2 HOLDS nothing. */
    private static final String NINE = "people 3;subject 9 1;holds 0 0 0;holds 1 0 1;";

    /** Which fit, by numbers, and no more. */
    private static void fits(Check c, String village, String log, int... wants) {
        QuarrelOvens x = Check.log(village, log);
        c.due("how many fit " + log, x.fits(0, 0, 0), wants.length);
        for (int k = 0; k < wants.length; k++) c.due("the " + k + "-th of " + log, x.fits(0, 0, 10 + k), wants[k]);
        c.due("no more of " + log, x.fits(0, 0, 10 + wants.length), -2);
    }

    // "of which k quarrels had been ahead, 0 .. 9"
    static void promise18FromNoneToNineAhead(Check c) {
        fits(c, NINE, "burned 0 1 9;", 0);
        fits(c, NINE, "burned 0 1 1;", 8);
        fits(c, NINE, "burned 1 0 0;", 9);
        fits(c, NINE, "", 0, 1, 2, 3, 4, 5, 6, 7, 8, 9);
    }

    // "each takes FADES of its HEAT, 0 at least"
    static void promise18HeatIs0AtLeast(Check c) {
        fits(c, NINE, "burned 0 1 1;burned 0 1 0;burned 0 1 0;", 8);
        fits(c, NINE, "burned 0 1 0;".repeat(8), 9);
        fits(c, "people 2;subject 5 9;holds 0 0 0;holds 1 0 1;", "burned 0 1 0;", 1, 2, 3, 4, 5, 6, 7, 8, 9);
        fits(c, "people 2;subject 5 9;holds 0 0 0;holds 1 0 1;", "burned 0 1 5;burned 0 1 0;", 0);
    }

    // "those that BURN 0, too"
    static void promise18ThoseThatBurn0FadeToo(Check c) {
        fits(c, NINE, "burned 0 2 0;burned 0 1 8;", 0);
        fits(c, NINE, "burned 0 2 0;burned 0 1 9;");
        fits(c, NINE + "holds 2 0 1;", "burned 1 2 0;burned 1 2 0;burned 0 1 7;", 0);
    }

    // "(two who do not both HOLD something BURN 0)"
    static void promise18TwoWhoDoNotBothHoldSomething(Check c) {
        fits(c, NINE, "burned 0 2 0;", 0, 1, 2, 3, 4, 5, 6, 7, 8, 9);
        fits(c, NINE, "burned 2 0 1;");
    }

    static void promise18EightFacts(Check c) {
        fits(c, NINE, "burned 0 1 9;burned 0 1 8;burned 0 1 7;burned 0 1 6;burned 0 1 5;burned 0 1 4;burned 0 1 3;burned 0 1 2;", 0);
        fits(c, NINE, "burned 0 1 9;burned 0 1 8;burned 0 1 7;burned 0 1 6;burned 0 1 5;burned 0 1 4;burned 0 1 3;burned 0 1 3;");
    }

    static void promise18AsHotAsCanBe(Check c) {
        String hot = "people 2;subject 9 1;holds 0 0 0;holds 1 0 9;";
        fits(c, hot, "burned 0 1 81;", 0);
        fits(c, hot, "burned 0 1 82;");
        fits(c, hot, "burned 0 1 99;");
    }

    // "how many; the k-th, by numbers"
    static void promise18ByNumbers(Check c) {
        fits(c, NINE + "subject 9 1;holds 0 1 5;holds 1 1 4;", "burned 0 1 8;", 1, 11);
        QuarrelOvens x = Check.log("people 2;" + "subject 1 1;".repeat(6), "");
        c.due("all of six subjects", x.fits(0, 0, 0), 60);
        for (int k = 0; k < 60; k++) c.due("the " + k + "-th", x.fits(0, 0, 10 + k), k);
        c.due("ask, of sixty", x.fits(0, 0, 2), 1);
        for (int what : new int[] {70, 71, 100, MAX}) c.due("no " + what, x.fits(0, 0, what), -2);
    }

    static void promise18WithoutSubjectsNothingFits(Check c) {
        fits(c, "people 2;", "");
        fits(c, "people 2;", "burned 0 1 0;");
    }

    // "SURE of the SUBJECT: it, if it is one in all"; "(NONE: not one)"
    static void promise18Sure(Check c) {
        c.due("one that fits", Check.log(NINE, "burned 0 1 9;").fits(0, 0, 1), 0);
        c.due("several of one subject", Check.log(NINE, "").fits(0, 0, 1), 0);
        c.due("one that fits, behind nine", Check.log(NINE, "burned 0 1 0;").fits(0, 0, 1), 0);
        c.due("nothing fits", Check.log(NINE, "burned 0 1 99;").fits(0, 0, 1), NONE);
        String two = NINE + "subject 9 1;holds 0 1 5;holds 1 1 4;";
        c.due("two subjects", Check.log(two, "burned 0 1 8;").fits(0, 0, 1), NONE);
        c.due("the last", Check.log(two.replace("holds 0 1 5", "holds 0 1 9"), "burned 0 1 45;").fits(0, 0, 1), 1);
    }

    // "2: ASK (NONE: nothing FITS"
    static void promise18AskWhereNothingFits(Check c) {
        c.due("nothing fits", Check.log(NINE, "burned 0 1 99;").fits(0, 0, 2), NONE);
        c.due("no subjects", Check.log("people 2;", "").fits(0, 0, 2), NONE);
    }

    // "fewer than two PEOPLE)"
    static void promise18AskOfFewerThanTwo(Check c) {
        c.due("nobody", Check.log("subject 1 1;", "").fits(0, 0, 2), NONE);
        c.due("one", Check.log("people 1;subject 1 1;", "").fits(0, 0, 2), NONE);
        c.due("two", Check.log("people 2;subject 1 1;", "").fits(0, 0, 2), 1);
    }

    // "the greatest number by which it BURNS as much is least, of several the first by numbers"
    static void promise18AskTheFirstOfSeveral(Check c) {
        c.due("one that fits", Check.log(NINE, "burned 0 1 9;").fits(0, 0, 2), 1);
        c.due("none burns", Check.log("people 8;subject 1 1;", "").fits(0, 0, 2), 1);
        c.due("all burn alike", Check.log("people 4;subject 9 1;holds 1 0 0;holds 2 0 3;holds 3 0 9;", "").fits(0, 0, 2), 12);
        c.due("the last two", Check.log("people 8;subject 9 1;holds 6 0 0;holds 7 0 1;", "").fits(0, 0, 2), 67);
    }

    static void promise18AskTheLeastOfTheGreatest(Check c) {
        // what fits burns 0 next, or all but two: no couple tells more of them apart than the first
        String two = "people 3;subject 9 9;subject 9 9;holds 0 0 0;holds 1 0 1;holds 2 0 2;holds 0 1 0;holds 1 1 1;holds 2 1 3;";
        c.due("ask", Check.log(two, "burned 0 1 0;").fits(0, 0, 2), 1);
        c.due("ask of all", Check.log(two, "").fits(0, 0, 2), 1);
        // 0 and 1 burn 8 next on either SUBJECT, 0 and 2 burn 16 or 24
        String three = "people 3;subject 9 1;subject 9 1;holds 0 0 0;holds 1 0 1;holds 2 0 2;holds 0 1 0;holds 1 1 1;holds 2 1 3;";
        c.due("0 and 2", Check.log(three, "burned 0 1 9;").fits(0, 0, 2), 2);
        // and here 64 or 72
        String hot = three.replace("holds 2 0 2", "holds 2 0 8").replace("holds 2 1 3", "holds 2 1 9");
        c.due("0 and 2, hot", Check.log(hot, "burned 0 1 9;").fits(0, 0, 2), 2);
    }

    // "-2: a PERSON that was told of is not there"
    static void promise18APersonIsNotThere(Check c) {
        for (String log : new String[] {"burned 0 3 0;", "burned 3 0 0;", "burned 6 7 0;", "burned 0 1 9;burned 1 3 0;", "burned 0 1 99;burned 3 1 0;"}) {
            QuarrelOvens x = Check.log(NINE, log);
            for (int what : new int[] {0, 1, 2, 10, 11}) c.due(log + " " + what, x.fits(0, 0, what), -2);
        }
        c.due("the last one is there", Check.log(NINE, "burned 0 2 0;").fits(0, 0, 0), 10);
        c.due("nobody is", Check.log("subject 1 1;", "burned 0 1 0;").fits(0, 0, 0), -2);
        c.due("nobody is told of", Check.log("subject 1 1;", "").fits(0, 0, 0), 10);
    }

    // "there is none such (of any), or for another what"
    static void promise18NoneSuch(Check c) {
        QuarrelOvens x = Check.log(NINE, "burned 0 1 9;");
        for (int wrong : new int[] {MIN, -2, -1, 1, 2, MAX}) {
            c.due("village " + wrong, x.fits(wrong, 0, 0), -2);
            c.due("log " + wrong, x.fits(0, wrong, 0), -2);
        }
        for (int what : new int[] {MIN, MIN + 9, -2, -1, 3, 4, 8, 9, 11, 12, 99, MAX}) c.due("what " + what, x.fits(0, 0, what), -2);
    }

    // ---- 19: drawn

    private static final int ANY = -1;
    private static final int NOT_SEVEN = -2;
    /** On SUBJECT 0 they HOLD 0, 2, 5, of SUBJECT 1 nothing. */
    private static final String DRAWN = "people 3;cools 1;subject 4 1;subject 2 1;hearth 1 60;hearth 1 60;holds 0 0 0;holds 1 0 2;holds 2 0 5;";

    /** The first seed, from 0 on, by which such numbers below such bounds are drawn. */
    private static int seedFor(int[] bounds, int... wanted) {
        for (int seed = 0; seed < 10_000_000; seed++) {
            long x = seed;
            boolean found = true;
            for (int i = 0; i < bounds.length && found; i++) {
                x = (x * 1103515245L + 12345L) % (1L << 32);
                long number = (x >> 16) % bounds[i];
                found = wanted[i] == ANY || wanted[i] == NOT_SEVEN && number != 7 || number == wanted[i];
            }
            if (found) return seed;
        }
        throw new IllegalStateException("no seed");
    }

    private static void drawn(Check c, String village, int seed, int n, int[][] wants) {
        QuarrelOvens x = Check.village(village);
        for (int[] want : wants) c.due("drawn by " + seed + ", " + n + " times, what " + want[0], x.drawn(0, seed, n, want[0]), want[1]);
    }

    // "another one (a number below PEOPLE less 1, and 1, and the first one's, remainder by PEOPLE)"
    static void promise19AnotherOneByRemainder(Check c) {
        // first one, number, who quarrel (bits), what burns
        int[][] rows = {{0, 0, 3, 8}, {0, 1, 5, 20}, {1, 0, 6, 12}, {1, 1, 3, 8}, {2, 0, 5, 20}, {2, 1, 6, 12}};
        for (int[] row : rows) {
            int seed = seedFor(new int[] {8, 3, 2, 2, 2}, 0, row[0], row[1], 0, 0);
            drawn(c, DRAWN, seed, 1, new int[][] {{2, row[2]}, {3, row[3]}, {10, row[3]}, {20, 3}});
        }
    }

    // "then 0 .. 3: quarrel, before a HEARTH, below HEARTHS; 4: agree; 5: deny"
    static void promise19EachNumberBelow8(Check c) {
        for (int kind = 0; kind < 4; kind++) {
            int seed = seedFor(new int[] {8, 3, 2, 2, 2, 8}, kind, 0, 0, 0, 1, 7);
            drawn(c, DRAWN, seed, 1, new int[][] {{0, 0}, {2, 3}, {3, 8}, {10, 0}, {11, 8}, {100, 0}, {110, 2}});
            drawn(c, DRAWN, seed, 2, new int[][] {{0, 1}, {2, 0}, {3, 8}, {10, 0}, {11, 7}});
        }
        int agree = seedFor(new int[] {8, 3, 2, 2, 8}, 4, 0, 0, 0, 7);
        drawn(c, DRAWN, agree, 1, new int[][] {{0, 0}, {2, 0}, {3, 0}, {100, 1}, {110, 1}, {120, 5}});
        drawn(c, DRAWN, agree, 2, new int[][] {{0, 1}, {100, 1}, {110, 1}, {120, 5}});
        int deny = seedFor(new int[] {8, 3, 2, 2, 8}, 5, 0, 0, 0, 7);
        drawn(c, DRAWN, deny, 2, new int[][] {{0, 1}, {3, 0}, {100, 7}, {110, 2}, {120, 5}});
        int news = seedFor(new int[] {8, 2, 10, 8}, 6, 1, 9, 7);
        drawn(c, DRAWN, news, 2, new int[][] {{0, 1}, {20, 4}, {21, 9}, {101, 9}, {111, 9}, {121, 9}, {100, 0}});
        drawn(c, DRAWN, seedFor(new int[] {8, 8, 8}, 7, 7, 7), 3, new int[][] {{0, 3}, {3, 0}});
    }

    // "each, if it may"
    static void promise19WhatMayNotBeIsNotDone(Check c) {
        // on SUBJECT 1 nobody HOLDS anything; all numbers are drawn all the same
        drawn(c, DRAWN, seedFor(new int[] {8, 3, 2, 2, 2, 8}, 0, 0, 0, 1, 0, 7), 2, new int[][] {{0, 1}, {2, 0}, {3, 0}, {21, 2}});
        drawn(c, DRAWN, seedFor(new int[] {8, 3, 2, 2, 8}, 4, 0, 0, 1, 7), 2, new int[][] {{0, 1}, {101, NONE}, {111, NONE}});
        drawn(c, DRAWN, seedFor(new int[] {8, 3, 2, 2, 8}, 5, 0, 0, 1, 7), 2, new int[][] {{0, 1}, {101, NONE}, {111, NONE}});
        // 0 has quarrelled in this hour
        drawn(c, DRAWN, seedFor(new int[] {8, 3, 2, 2, 2, 8, 3, 2, 2, 2}, 0, 0, 0, 0, ANY, 0, 0, 1, 0, ANY), 2, new int[][] {{2, 3}, {3, 8}, {20, 3}});
        // a DAY would stop there, but more is drawn
        drawn(c, DRAWN, seedFor(new int[] {8, 3, 2, 2, 2, 8, 2, 10}, 0, 0, 0, 1, ANY, 6, 0, 6), 2, new int[][] {{3, 0}, {100, 6}, {20, 9}});
    }

    private static final int[] EIGHTS = {8, 8, 8, 8, 8, 8};

    /** If no more is drawn by the first number, the second one is 7: an hour; behind further numbers it would be none. */
    private static void drawsNoMore(Check c, String village, int kind) {
        int seed = seedFor(EIGHTS, kind, 7, NOT_SEVEN, NOT_SEVEN, NOT_SEVEN, NOT_SEVEN);
        drawn(c, village, seed, 1, new int[][] {{0, 0}, {3, 0}});
        drawn(c, village, seed, 2, new int[][] {{0, 1}, {3, 0}});
    }

    // "(Without SUBJECTS 0 to 6 .. draw no more, nothing is done.)"
    static void promise19WithoutSubjects(Check c) {
        for (int kind = 0; kind <= 6; kind++) drawsNoMore(c, "people 8;hearth 1 9;hearth 1 9;", kind);
    }

    // "with fewer than two PEOPLE 0 to 5"
    static void promise19WithFewerThanTwo(Check c) {
        for (int kind = 0; kind <= 5; kind++) {
            drawsNoMore(c, "people 1;subject 9 1;hearth 1 9;holds 0 0 5;", kind);
            drawsNoMore(c, "subject 9 1;hearth 1 9;", kind);
        }
        int news = seedFor(new int[] {8, 1, 10, 8}, 6, 0, 3, 7);
        drawn(c, "people 1;subject 1 1;", news, 2, new int[][] {{0, 1}, {20, 9}, {100, 3}});
        drawn(c, "subject 1 1;", news, 2, new int[][] {{0, 1}, {20, 9}});
    }

    static void promise19WithTwo(Check c) {
        String two = "people 2;subject 9 1;hearth 1 99;holds 0 0 0;holds 1 0 9;";
        drawn(c, two, seedFor(new int[] {8, 2, 1, 1, 1, 8}, 3, 1, 0, 0, 0, 7), 2, new int[][] {{0, 1}, {3, 81}, {10, 79}});
        drawn(c, two, seedFor(new int[] {8, 2, 1, 1, 8}, 5, 1, 0, 0, 7), 2, new int[][] {{0, 1}, {100, 0}, {110, 9}});
        drawn(c, two, seedFor(new int[] {8, 2, 1, 1, 8}, 4, 1, 0, 0, 7), 2, new int[][] {{0, 1}, {100, 4}, {110, 4}});
    }

    // "without HEARTHS 0 to 3"
    static void promise19WithoutHearths(Check c) {
        String none = "people 2;subject 9 1;holds 0 0 0;holds 1 0 9;";
        for (int kind = 0; kind <= 3; kind++) drawsNoMore(c, none, kind);
        drawn(c, none, seedFor(new int[] {8, 2, 1, 1, 8}, 4, 0, 0, 0, 7), 2, new int[][] {{0, 1}, {100, 4}, {110, 4}});
        drawn(c, none, seedFor(new int[] {8, 2, 1, 1, 8}, 5, 0, 0, 0, 7), 2, new int[][] {{0, 1}, {100, 0}, {110, 9}});
        drawn(c, none, seedFor(new int[] {8, 1, 10, 8}, 6, 0, 5, 7), 2, new int[][] {{0, 1}, {100, 5}, {110, 5}});
    }

    // "x becomes x * 1103515245 + 12345 (of 32 bits), it is x shifted right by 16 without sign"
    static void promise19SeedsWrapAround(Check c) {
        for (int seed : new int[] {0, 1, -1, MIN, MIN + 1, MAX, -77, 123456789}) {
            QuarrelOvens x = Check.village("people 8;");
            long at = seed & 0xffffffffL;
            int hours = 0;
            for (int n = 0; n <= 60; n++) {
                c.due("hours by " + seed + ", " + n + " times", x.drawn(0, seed, n, 0), hours);
                at = (at * 1103515245L + 12345L) & 0xffffffffL;
                hours += (at >> 16) % 8 == 7 ? 1 : 0;
            }
        }
    }

    // remainders by a number that is no power of 2 show the sign, too
    static void promise19RemainderWithoutSign(Check c) {
        int seed = 0;
        for (; seed < 1000; seed++) {
            int first = seed * 1103515245 + 12345;
            int second = first * 1103515245 + 12345;
            if ((first >>> 16) % 8 == 6 && second < 0) break;
        }
        long x = (seed * 1103515245L + 12345L) % (1L << 32);
        x = (x * 1103515245L + 12345L) % (1L << 32);
        int subject = (int) ((x >> 16) % 3);
        x = (x * 1103515245L + 12345L) % (1L << 32);
        drawn(c, "people 1;" + "subject 1 1;".repeat(3), seed, 1, new int[][] {{20 + subject, 9}, {100 + subject, (int) ((x >> 16) % 10)}});
    }

    // "n times, 0 to 60"; "-2: .. another n"
    static void promise19AnotherN(Check c) {
        QuarrelOvens x = Check.village(DRAWN);
        int[][] told = {{0, 0}, {1, 0}, {2, 0}, {3, 0}, {10, 0}, {11, 0}, {20, 4}, {21, 2}, {100, 0}, {110, 2}, {120, 5}, {101, NONE}};
        drawn(c, DRAWN, 5, 0, told);
        c.due("60", x.drawn(0, 5, 60, 0) >= 0, true);
        for (int n : new int[] {MIN, -2, -1, 61, 62, MAX}) for (int what : new int[] {0, 3, 10, 100}) c.due("n " + n, x.drawn(0, 5, n, what), -2);
        c.due("as told", x.village(0, 110), 2);
    }

    // "or for another what"
    static void promise19AnotherWhat(Check c) {
        QuarrelOvens x = Check.village(DRAWN);
        for (int what : new int[] {MIN, -100, -10, -2, -1, 4, 9, 12, 14, 19, 22, 29, 30, 40, 99, 102, 109, 130, 170, MAX}) {
            c.due("what " + what, x.drawn(0, 5, 0, what), -2);
            c.due("what " + what, x.drawn(0, 5, 60, what), -2);
        }
    }

    static void promise19NoSuchVillage(Check c) {
        QuarrelOvens x = Check.village(DRAWN);
        for (int v : new int[] {MIN, -2, -1, 1, 2, MAX}) c.due("village " + v, x.drawn(v, 5, 5, 0), -2);
    }

    // ---- 20: spent

    /** 0 and 1 are 1 APART on three SUBJECTS of HEAT 9: they can quarrel 27 times. */
    private static final String THRICE = "people 3;" + "subject 9 1;".repeat(3)
        + "holds 0 0 0;holds 1 0 1;holds 0 1 0;holds 1 1 1;holds 0 2 0;holds 1 2 1;holds 2 0 0;";

    // "n, 0 .. 20"
    static void promise20NoneAndTwenty(Check c) {
        QuarrelOvens x = Check.village(THRICE);
        c.due("none", x.spent(0, 0, 1, 0, NONE), 0);
        c.due("none, no subject", x.spent(0, 0, 1, 0, 0), NONE);
        c.due("one", x.spent(0, 0, 1, 1, NONE), 9);
        c.due("twenty", x.spent(0, 0, 1, 20, NONE), 3 * (9 + 8 + 7 + 6 + 5 + 4) + 2 * 3);
        c.due("twenty, the last", x.spent(0, 0, 1, 20, 19), 1);
        c.due("twenty, no further", x.spent(0, 0, 1, 20, 20), NONE);
    }

    // "NONE: .. another n"
    static void promise20AnotherN(Check c) {
        QuarrelOvens x = Check.village(THRICE);
        for (int n : new int[] {MIN, -2, -1, 21, 22, MAX}) for (int k = -1; k < 2; k++) c.due("n " + n, x.spent(0, 0, 1, n, k), NONE);
    }

    // "of several the least"
    static void promise20LeastOfSeveral(Check c) {
        QuarrelOvens x = Check.village(THRICE);
        for (int k = 0; k < 20; k++) c.due("the " + k + "-th", x.spent(0, 1, 0, 20, k), k % 3);
    }

    // "n quarrels or fewer .. until there is none"; "NONE: not so many"
    static void promise20UntilThereIsNone(Check c) {
        QuarrelOvens x = Check.village("people 2;subject 4 3;subject 9 9;holds 0 0 0;holds 1 0 2;holds 0 1 3;holds 1 1 4;");
        int[] sums = {0, 9, 17, 19, 19, 19};
        for (int n = 0; n < 6; n++) c.due("spent " + n, x.spent(0, 0, 1, n, NONE), sums[n]);
        c.due("spent 20", x.spent(0, 0, 1, 20, NONE), 19);
        int[] row = {1, 0, 0, NONE, NONE};
        for (int k = 0; k < 5; k++) c.due("the " + k + "-th", x.spent(0, 0, 1, 20, k), row[k]);
        c.due("not so many as n", x.spent(0, 0, 1, 2, 2), NONE);
    }

    static void promise20NotApartIs0(Check c) {
        QuarrelOvens x = Check.village(THRICE);
        c.due("not apart", x.spent(0, 0, 2, 20, NONE), 0);
        c.due("not apart, no subject", x.spent(0, 0, 2, 20, 0), NONE);
        c.due("no subjects", Check.village("people 2;").spent(0, 0, 1, 20, NONE), 0);
    }

    static void promise20AnotherK(Check c) {
        QuarrelOvens x = Check.village(THRICE);
        for (int k : new int[] {MIN, -3, -2, 20, 21, 27, MAX}) c.due("k " + k, x.spent(0, 0, 1, 20, k), NONE);
    }

    // "they are one .. or there is none such (of any)"
    static void promise20OneOrNoneSuch(Check c) {
        QuarrelOvens x = Check.village(THRICE);
        for (int k = -1; k < 1; k++) {
            for (int p = 0; p < 3; p++) c.due("one", x.spent(0, p, p, 5, k), NONE);
            for (int wrong : new int[] {MIN, -2, -1, 3, 8, MAX}) {
                c.due("village", x.spent(wrong, 0, 1, 5, k), NONE);
                c.due("first", x.spent(0, wrong, 1, 5, k), NONE);
                c.due("second", x.spent(0, 0, wrong, 5, k), NONE);
            }
            c.due("the next village", x.spent(1, 0, 1, 5, k), NONE);
        }
    }

    // ---- 21: kept

    private static void kept(Check c, int cools, int heat, int fades, int apart, String hearth, int hours) {
        QuarrelOvens x = Check.village("cools " + cools + ";" + fading(heat, fades, apart) + "hearth " + hearth + ";");
        String call = "cools " + cools + " subject " + heat + " " + fades + " apart " + apart + " hearth " + hearth;
        c.due(call, x.kept(0, 0, 1, 0, 0), hours);
        c.due(call + ", turned", x.kept(0, 1, 0, 0, 0), hours);
    }

    // "the hour counts, if WARM is what it WANTS or more then"
    static void promise21WhatItWantsOrMore(Check c) {
        kept(c, 1, 5, 5, 1, "4 9", 2);
        kept(c, 1, 5, 5, 1, "5 9", 1);
        kept(c, 1, 5, 5, 1, "6 9", 0);
    }

    // "never so that it cracks"
    static void promise21NeverSoThatItCracks(Check c) {
        kept(c, 1, 5, 5, 1, "5 5", 1);
        kept(c, 1, 5, 5, 1, "4 4", 0);
        kept(c, 1, 5, 1, 1, "3 5", 3);
        kept(c, 1, 5, 1, 1, "3 6", 13);
        kept(c, 1, 5, 1, 1, "1 5", 15);
        kept(c, 1, 9, 1, 9, "1 80", 0);
    }

    // "in each hour they quarrel on it, or not"
    static void promise21OnceInAnHour(Check c) {
        kept(c, 0, 5, 1, 1, "6 99", 0);
        kept(c, 9, 9, 1, 1, "7 99", 3);
        kept(c, 9, 9, 1, 1, "9 99", 1);
    }

    // "99 at most"
    static void promise21NinetyNineAtMost(Check c) {
        kept(c, 1, 9, 6, 8, "1 99", 96);
        kept(c, 1, 9, 7, 9, "1 99", 99);
        kept(c, 1, 9, 2, 4, "1 99", 99);
        kept(c, 1, 9, 1, 9, "1 99", 99);
        kept(c, 0, 1, 1, 1, "1 1", 99);
        kept(c, 0, 9, 9, 9, "60 81", 99);
    }

    static void promise21UpTo99Warm(Check c) {
        // in hour 4 it must be 54 and 45, which is all that it bears
        kept(c, 9, 9, 4, 9, "60 99", 9);
        kept(c, 9, 9, 4, 9, "60 98", 3);
        // 72 .. 60, then 59 and 40: 99 .. 60, then 59 and 8: 67 .. 60
        kept(c, 1, 9, 4, 8, "60 99", 13 + 40 + 8);
        kept(c, 1, 9, 4, 8, "60 98", 13);
        kept(c, 9, 9, 7, 9, "60 99", 5);
        kept(c, 9, 9, 7, 9, "60 80", 0);
    }

    static void promise21NotApartIs0(Check c) {
        kept(c, 0, 9, 1, 0, "1 99", 0);
    }

    // "NONE: as apart()"
    static void promise21AsApart(Check c) {
        QuarrelOvens x = Check.village(fading(9, 1, 9) + "hearth 1 99;");
        c.due("one", x.kept(0, 0, 0, 0, 0), NONE);
        c.due("nothing held", x.kept(0, 0, 2, 0, 0), NONE);
        c.due("nothing held", x.kept(0, 2, 0, 0, 0), NONE);
        for (int wrong : new int[] {MIN, -2, -1, 3, 8, MAX}) {
            c.due("village", x.kept(wrong, 0, 1, 0, 0), NONE);
            c.due("first", x.kept(0, wrong, 1, 0, 0), NONE);
            c.due("second", x.kept(0, 0, wrong, 0, 0), NONE);
            c.due("subject", x.kept(0, 0, 1, wrong, 0), NONE);
        }
        c.due("the next subject", x.kept(0, 0, 1, 1, 0), NONE);
    }

    // "or there is no such HEARTH"
    static void promise21NoSuchHearth(Check c) {
        QuarrelOvens x = Check.village(fading(9, 1, 9) + "hearth 1 99;hearth 60 80;");
        c.due("the last", x.kept(0, 0, 1, 0, 1), 0);
        for (int h : new int[] {MIN, -2, -1, 2, 3, 4, MAX}) c.due("hearth " + h, x.kept(0, 0, 1, 0, h), NONE);
        c.due("no hearths", Check.village(fading(9, 1, 9)).kept(0, 0, 1, 0, 0), NONE);
    }

    // ---- 22: calm

    /** One SUBJECT, of which they HOLD so much (NONE: nothing). */
    private static QuarrelOvens holding(int... held) {
        StringBuilder text = new StringBuilder("people " + held.length + ";subject 1 1;");
        for (int p = 0; p < held.length; p++) if (held[p] != NONE) text.append("holds " + p + " 0 " + held[p] + ";");
        return Check.village(text.toString());
    }

    private static void calm(Check c, QuarrelOvens x, int what, int want) {
        c.due("calm, what " + what, x.calm(0, 0, what), want);
    }

    // "until none are: how often; what all HOLD then who do"
    static void promise22CalmWhereNoneAreApart(Check c) {
        int[][] rows = {{7, 7, 7}, {NONE, 7, NONE}, {7}, {7, NONE}};
        for (int[] row : rows) {
            calm(c, holding(row), 0, 0);
            calm(c, holding(row), 1, 7);
        }
    }

    // "(NONE: nobody does)"
    static void promise22CalmOfNobody(Check c) {
        for (QuarrelOvens x : new QuarrelOvens[] {holding(), holding(NONE), holding(NONE, NONE, NONE)}) {
            calm(c, x, 0, 0);
            calm(c, x, 1, NONE);
        }
    }

    // "the first two by numbers (the lesser one first) who are APART on it agree"
    static void promise22CalmByTheFirstTwo(Check c) {
        calm(c, holding(0, 9), 0, 1);
        calm(c, holding(0, 9), 1, 4);
        calm(c, holding(9, NONE, 8), 0, 1);
        calm(c, holding(9, NONE, 8), 1, 8);
        // 2 2 6, 2 4 4 by 0 and 2: 4 2 4, by 0 and 1: 3 3 4, by 0 and 2: 3 3 3
        calm(c, holding(2, 2, 6), 0, 3);
        calm(c, holding(2, 2, 6), 1, 3);
        // 0 9 9: 4 4 9, 6 4 6, 5 5 6, 5 5 5
        calm(c, holding(0, 9, 9), 0, 4);
        calm(c, holding(0, 9, 9), 1, 5);
        // 9 9 0: 4 9 4, 6 6 4, 5 6 5, 5 5 5
        calm(c, holding(9, 9, 0), 0, 4);
        calm(c, holding(9, 9, 0), 1, 5);
    }

    static void promise22CalmChangesNothingTold(Check c) {
        QuarrelOvens x = holding(0, 9);
        x.calm(0, 0, 0);
        c.due("0", x.village(0, 100), 0);
        c.due("1", x.village(0, 110), 9);
    }

    // "MIDDLE ..: the number, 0 .. 9, from which all who HOLD something of it differ least together, of several the least; how much"
    static void promise22MiddleTheLeastOfSeveral(Check c) {
        int[][] rows = {{0, 9, 0, 9}, {9, 0, 0, 9}, {3, 8, 3, 5}, {9, 9, 9, 0}, {0, 0, 0, 0}, {4, 6, 4, 2}};
        for (int[] row : rows) {
            calm(c, holding(row[0], row[1]), 2, row[2]);
            calm(c, holding(row[0], row[1]), 3, row[3]);
        }
        for (int held = 0; held <= 9; held++) {
            calm(c, holding(held, held, held), 2, held);
            calm(c, holding(held, held, held), 3, 0);
        }
        calm(c, holding(9, 9, 9, 0), 2, 9);
        calm(c, holding(9, 9, 9, 0), 3, 9);
        calm(c, holding(0, NONE, 9, 5), 2, 5);
        calm(c, holding(0, NONE, 9, 5), 3, 9);
    }

    // "2: MIDDLE (NONE: nobody HOLDS anything)"
    static void promise22MiddleOfNobody(Check c) {
        for (QuarrelOvens x : new QuarrelOvens[] {holding(), holding(NONE), holding(NONE, NONE, NONE)}) {
            calm(c, x, 2, NONE);
            calm(c, x, 3, 0);
        }
        calm(c, holding(0), 2, 0);
        calm(c, holding(0), 3, 0);
    }

    // "OATH ..: the fewest PEOPLE who are to leave, so that no two who are left are APART on it"
    static void promise22OathOfNoneAndOfAllButOne(Check c) {
        calm(c, holding(), 4, 0);
        calm(c, holding(NONE, NONE), 4, 0);
        calm(c, holding(5), 4, 0);
        calm(c, holding(5, 5, 5, NONE), 4, 0);
        calm(c, holding(0, 1, 2, 3, 4, 5, 8, 9), 4, 7);
        calm(c, holding(0, 0, 9, 9, 9, NONE), 4, 2);
        calm(c, holding(0, 0, 0, 9, 9, NONE), 4, 2);
    }

    // "-2: there is none such (of either), or for another what"
    static void promise22NoneSuch(Check c) {
        QuarrelOvens x = holding(0, 9);
        for (int what = 0; what < 5; what++) {
            for (int wrong : new int[] {MIN, -2, -1, 1, 2, 6, MAX}) {
                c.due("village " + wrong, x.calm(wrong, 0, what), -2);
                c.due("subject " + wrong, x.calm(0, wrong, what), -2);
            }
            c.due("no subjects", Check.village("people 2;").calm(0, 0, what), -2);
        }
        for (int what : new int[] {MIN, -2, -1, 5, 6, MAX}) c.due("what " + what, x.calm(0, 0, what), -2);
    }
}
