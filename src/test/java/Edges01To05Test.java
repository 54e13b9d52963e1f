/** Promises 1 to 5, and the texts of term 1: a test for each sentence that names a boundary case. */
final class Edges01To05Test {
    private static final int NONE = QuarrelOvens.NONE;
    private static final int MIN = Integer.MIN_VALUE;
    private static final int MAX = Integer.MAX_VALUE;
    private static final String[] ONE_LINE = {"people 1;", "hour;", "burned 0 1 7;"};
    private static final String[] BROKEN = {"people 1", "hour", "burned 0 1 7"};

    public static void main(String[] args) {
        Check.runAll(Edges01To05Test.class);
    }

    // ---- 1: "No VILLAGES, DAYS, LOGS; no images."

    static void promise01NoVillagesDaysLogs(Check c) {
        QuarrelOvens x = new QuarrelOvens();
        for (int sort = 0; sort < 3; sort++) c.due("count " + sort, x.count(sort), 0);
        for (int i = 0; i < 2; i++) {
            c.due("village " + i, x.village(i, 0), -2);
            c.due("deed " + i, x.deed(i, NONE, 0), -2);
            c.due("fact " + i, x.fact(i, NONE, 0), -2);
        }
    }

    static void promise01NoImages(Check c) {
        QuarrelOvens x = new QuarrelOvens();
        for (int k = 0; k < 3; k++) c.due("again " + k, x.again(k), false);
    }

    static void promise01EmptyTape(Check c) {
        c.due("end(1)", new QuarrelOvens().end(1), NONE);
        c.due("feed", new QuarrelOvens().feed(0, 0, 0, 0, 0), 20);
    }

    static void promise01NoFault(Check c) {
        QuarrelOvens x = new QuarrelOvens();
        c.due("fault(0)", x.fault(0), 0);
        c.due("fault(1)", x.fault(1), NONE);
    }

    static void promise01NothingOfAnotherObject(Check c) {
        QuarrelOvens x = Check.day("people 8;", "hour;");
        x.image(0);
        x.feed(1, 2, 3, 4, 5);
        QuarrelOvens y = new QuarrelOvens();
        c.due("count", y.count(0) + y.count(1), 0);
        c.due("again", y.again(0), false);
        c.due("end(1)", y.end(1), NONE);
    }

    // "An object is used for at most 512 calls after it has been made"
    static void promise01TheLastOf512Calls(Check c) {
        QuarrelOvens x = new QuarrelOvens();
        for (int call = 1; call <= 510; call++) c.due("call " + call, call % 2 == 1 ? x.feed(0x20202020, 0, 0, 0, 0) : x.end(0), call % 2 * 20);
        c.due("call 511", x.text(0, NONE), 0);
        c.due("call 512", x.village(0, 3), 2);
    }

    // ---- 2: feed

    /** A tape of blanks, so many twenties. */
    private static QuarrelOvens blanks(int twenties) {
        QuarrelOvens x = new QuarrelOvens();
        for (int i = 0; i < twenties; i++) x.feed(0x20202020, 0x20202020, 0x20202020, 0x20202020, 0x20202020);
        return x;
    }

    // "twenty bytes come behind it ..: how many it has"
    static void promise02HowManyUpTo600(Check c) {
        QuarrelOvens x = new QuarrelOvens();
        for (int i = 1; i <= 30; i++) c.due("feed " + i, x.feed(i, i, i, i, i), 20 * i);
    }

    // "of each number the highest first"
    static void promise02HighestByteFirst(Check c) {
        QuarrelOvens x = new QuarrelOvens();
        x.feed(0x686f7572, 0x3b686f75, 0x723b686f, 0x75723b68, 0x6f75723b);
        c.due("hour;hour;hour;hour;", x.text(1, NONE), 0);
        c.due("deeds", x.deed(0, NONE, 0), 4);
    }

    static void promise02EachByteOfEachNumber(Check c) {
        for (int place = 0; place < 20; place++) {
            for (int sign : new int[] {0, 127, 128, 200, 255}) {
                int[] n = {0x20202020, 0x20202020, 0x20202020, 0x20202020, 0x20202020};
                int shift = 24 - 8 * (place % 4);
                n[place / 4] = n[place / 4] & ~(255 << shift) | sign << shift;
                QuarrelOvens x = new QuarrelOvens();
                x.feed(n[0], n[1], n[2], n[3], n[4]);
                c.due("byte " + sign + " at " + place, x.text(1, NONE), NONE);
                c.due("byte " + sign + " at " + place + ", place", x.fault(1), place);
            }
        }
    }

    // "NONE .. if there would be more than 600"
    static void promise02FullTape(Check c) {
        QuarrelOvens x = blanks(30);
        c.due("feed", x.feed(0x20202020, 0, 0, 0, 0), NONE);
        c.due("feed, again", x.feed(0x20202020, 0, 0, 0, 0), NONE);
    }

    static void promise02OneByteTooMany(Check c) {
        QuarrelOvens x = blanks(30);
        x.end(581);
        c.due("feed at 581", x.feed(0, 0, 0, 0, 0), NONE);
    }

    static void promise02JustAsManyAsMayBe(Check c) {
        QuarrelOvens x = blanks(30);
        x.end(580);
        c.due("feed at 580", x.feed(0, 0, 0, 0, 0), 600);
    }

    // "and nothing comes"
    static void promise02NothingComesWhenRefused(Check c) {
        for (int size : new int[] {581, 590, 599, 600}) {
            QuarrelOvens x = blanks(30);
            x.end(size);
            x.feed(0x78787878, 0x78787878, 0x78787878, 0x78787878, 0x78787878);
            c.due("end, at " + size, x.end(size + 1), NONE);
            c.due("end, at " + size, x.end(size), size);
            c.due("blanks alone, at " + size, x.text(1, NONE), 0);
        }
    }

    // ---- 3: end

    // "The tape has its first n bytes alone: n."
    static void promise03AllBytesStay(Check c) {
        QuarrelOvens x = blanks(30);
        c.due("end(600)", x.end(600), 600);
        c.due("end(600), again", x.end(600), 600);
    }

    static void promise03NoByteStays(Check c) {
        QuarrelOvens x = blanks(2);
        c.due("end(0)", x.end(0), 0);
        c.due("end(1)", x.end(1), NONE);
        c.due("feed", x.feed(0, 0, 0, 0, 0), 20);
    }

    static void promise03EmptyTape(Check c) {
        QuarrelOvens x = new QuarrelOvens();
        c.due("end(0)", x.end(0), 0);
        c.due("end(1)", x.end(1), NONE);
    }

    static void promise03FurtherBytesComeBehindTheFirst(Check c) {
        QuarrelOvens x = new QuarrelOvens();
        Check.feed(x, "hour;news 0 0;xxxxxx");
        c.due("end(5)", x.end(5), 5);
        c.due("what is cut is gone", x.end(6), NONE);
        c.due("feed", x.feed(0x686f7572, 0x3b202020, 0x20202020, 0x20202020, 0x20202020), 25);
        c.due("text", x.text(1, NONE), 0);
        c.due("deeds", x.deed(0, NONE, 0), 2);
    }

    // "NONE if it has not so many"
    static void promise03NotSoMany(Check c) {
        QuarrelOvens x = blanks(1);
        for (int n : new int[] {21, 600, 601, MAX}) c.due("end " + n, x.end(n), NONE);
        c.due("it stays", x.feed(0, 0, 0, 0, 0), 40);
        QuarrelOvens full = blanks(30);
        c.due("end(601)", full.end(601), NONE);
    }

    // "or n is below 0"
    static void promise03BelowZero(Check c) {
        QuarrelOvens x = blanks(1);
        for (int n : new int[] {-1, -2, -20, MIN}) c.due("end " + n, x.end(n), NONE);
        c.due("it stays", x.feed(0, 0, 0, 0, 0), 40);
    }

    // ---- 4: text

    // "a further one (at NONE) ..: its number"; "VILLAGES, at most 2, DAYS, at most 2, LOGS, at most 2, from 0 on"
    static void promise04FurtherOnesFrom0On(Check c) {
        for (int sort = 0; sort < 3; sort++) {
            QuarrelOvens x = new QuarrelOvens();
            c.due("first of sort " + sort, Check.tell(x, sort, NONE, ONE_LINE[sort]), 0);
            c.due("count " + sort, x.count(sort), 1);
            c.due("second of sort " + sort, Check.tell(x, sort, NONE, ""), 1);
            c.due("count " + sort, x.count(sort), 2);
            c.due("others", x.count((sort + 1) % 3) + x.count((sort + 2) % 3), 0);
        }
    }

    static void promise04EmptyTapeIsAText(Check c) {
        QuarrelOvens x = new QuarrelOvens();
        for (int sort = 0; sort < 3; sort++) c.due("text of sort " + sort, x.text(sort, NONE), 0);
        c.due("people", x.village(0, 0), 0);
        c.due("deeds", x.deed(0, NONE, 0), 0);
        c.due("facts", x.fact(0, NONE, 0), 0);
    }

    static void promise04FullTapeIsAText(Check c) {
        String[] ends = {"people 8;", "hour;", "burned 6 7 99;"};
        for (int sort = 0; sort < 3; sort++) {
            QuarrelOvens x = new QuarrelOvens();
            String text = " ".repeat(600 - ends[sort].length()) + ends[sort];
            c.due("600 bytes of sort " + sort, Check.tell(x, sort, NONE, text), 0);
            int told = sort == 0 ? x.village(0, 0) : sort == 1 ? x.deed(0, 0, 0) : x.fact(0, 0, 2);
            c.due("its last line", told, sort == 0 ? 8 : sort == 1 ? 4 : 99);
        }
    }

    // "The tape is taken (and is empty then)"
    static void promise04TapeIsEmptyBehindAText(Check c) {
        for (int sort = 0; sort < 3; sort++) {
            QuarrelOvens x = new QuarrelOvens();
            Check.tell(x, sort, NONE, ONE_LINE[sort]);
            c.due("end(1), sort " + sort, x.end(1), NONE);
            c.due("feed, sort " + sort, x.feed(0, 0, 0, 0, 0), 20);
        }
    }

    static void promise04TapeIsEmptyBehindAFault(Check c) {
        for (int sort = 0; sort < 3; sort++) {
            QuarrelOvens x = new QuarrelOvens();
            c.due("text", Check.tell(x, sort, NONE, BROKEN[sort]), NONE);
            c.due("end(1), sort " + sort, x.end(1), NONE);
            c.due("feed, sort " + sort, x.feed(0, 0, 0, 0, 0), 20);
        }
    }

    static void promise04TapeIsEmptyWhenRefused(Check c) {
        int[][] refused = {{0, 0}, {1, 1}, {2, -2}, {3, NONE}, {-1, NONE}, {MAX, 0}};
        for (int[] call : refused) {
            QuarrelOvens x = new QuarrelOvens();
            c.due("text", Check.tell(x, call[0], call[1], "hour;"), -2);
            c.due("end(1)", x.end(1), NONE);
            c.due("feed", x.feed(0, 0, 0, 0, 0), 20);
        }
    }

    /** An object with two of each sort, the first of which have a line, the second of which are empty. */
    private static QuarrelOvens full() {
        QuarrelOvens x = new QuarrelOvens();
        for (int sort = 0; sort < 3; sort++) {
            Check.tell(x, sort, NONE, ONE_LINE[sort]);
            Check.tell(x, sort, NONE, "");
        }
        return x;
    }

    private static int lines(QuarrelOvens x, int sort, int i) {
        return sort == 0 ? x.village(i, 0) : sort == 1 ? x.deed(i, NONE, 0) : x.fact(i, NONE, 0);
    }

    // "-2: .. there are as many as may be"
    static void promise04AThirdIsRefused(Check c) {
        for (int sort = 0; sort < 3; sort++) {
            QuarrelOvens x = full();
            c.due("third of sort " + sort, Check.tell(x, sort, NONE, ONE_LINE[sort]), -2);
            c.due("count", x.count(sort), 2);
            c.due("the first", lines(x, sort, 0), 1);
            c.due("the second", lines(x, sort, 1), 0);
            c.due("no third", lines(x, sort, 2), -2);
        }
    }

    // "or in the place of one: its number"
    static void promise04InThePlaceOfOneWhereThereAreAllThatMayBe(Check c) {
        for (int sort = 0; sort < 3; sort++) {
            QuarrelOvens x = full();
            c.due("in the place of the last", Check.tell(x, sort, 1, ONE_LINE[sort]), 1);
            c.due("the last", lines(x, sort, 1), 1);
            c.due("in the place of the first", Check.tell(x, sort, 0, ""), 0);
            c.due("the first", lines(x, sort, 0), 0);
            c.due("the last stays", lines(x, sort, 1), 1);
            c.due("count", x.count(sort), 2);
        }
    }

    static void promise04InThePlaceOfTheOnlyOne(Check c) {
        for (int sort = 0; sort < 3; sort++) {
            QuarrelOvens x = new QuarrelOvens();
            Check.tell(x, sort, NONE, ONE_LINE[sort]);
            c.due("in its place", Check.tell(x, sort, 0, ""), 0);
            c.due("count", x.count(sort), 1);
            c.due("what it has", lines(x, sort, 0), 0);
        }
    }

    static void promise04NothingIsLeftOfTheOneBefore(Check c) {
        QuarrelOvens x = Check.village("people 3;cools 9;subject 9 9;hearth 9 9;holds 1 0 5;");
        Check.tell(x, 0, 0, "people 2;subject 1 1;");
        int[] whats = {0, 1, 2, 3, 10, 20, 30, 40, 100, 110, 120};
        int[] wants = {2, 1, 0, 2, 1, 1, -2, -2, NONE, NONE, -2};
        for (int i = 0; i < whats.length; i++) c.due("village " + whats[i], x.village(0, whats[i]), wants[i]);
        Check.tell(x, 1, NONE, "quarrel 0 1 2 3;hour;");
        Check.tell(x, 1, 0, "hour;");
        c.due("its numbers", x.deed(0, 0, 1), NONE);
        c.due("no second deed", x.deed(0, 1, 0), -2);
    }

    // "-2: there is none such"
    static void promise04NoneSuchIsRefused(Check c) {
        for (int sort = 0; sort < 3; sort++) {
            for (int told = 0; told <= 2; told++) {
                for (int at : new int[] {told, 2, 3, -2, MIN, MAX}) {
                    QuarrelOvens x = new QuarrelOvens();
                    for (int i = 0; i < told; i++) Check.tell(x, sort, NONE, "");
                    c.due("text(" + sort + ", " + at + ") of " + told, Check.tell(x, sort, at, ONE_LINE[sort]), -2);
                    c.due("count", x.count(sort), told);
                }
            }
        }
    }

    static void promise04OneOfAnotherSortIsNoneSuch(Check c) {
        for (int sort = 0; sort < 3; sort++) {
            QuarrelOvens x = new QuarrelOvens();
            Check.tell(x, sort, NONE, "");
            c.due("text", Check.tell(x, (sort + 1) % 3, 0, ""), -2);
            c.due("text", Check.tell(x, (sort + 2) % 3, 0, ""), -2);
        }
    }

    // "or no such sort"
    static void promise04NoSuchSortIsRefused(Check c) {
        for (int sort : new int[] {-1, -2, 3, 4, MIN, MAX}) {
            QuarrelOvens x = full();
            c.due("a further one of sort " + sort, Check.tell(x, sort, NONE, ""), -2);
            c.due("in the place of one of sort " + sort, Check.tell(x, sort, 0, ""), -2);
            for (int s = 0; s < 3; s++) c.due("others stay", lines(x, s, 0), 1);
        }
    }

    // "(no text is read then, FAULT 0)"
    static void promise04RefusedIsNotRead(Check c) {
        int[][] refused = {{0, 2}, {0, NONE}, {1, NONE}, {2, -2}, {3, NONE}};
        for (int[] call : refused) {
            QuarrelOvens x = full();
            c.due("refused", Check.tell(x, call[0], call[1], "?"), -2);
            c.due("fault(0)", x.fault(0), 0);
            c.due("fault(1)", x.fault(1), NONE);
        }
    }

    static void promise04RefusedHasFault0BehindAFault(Check c) {
        int[][] refused = {{0, 2}, {0, NONE}, {1, NONE}, {2, -2}, {3, NONE}};
        for (int[] call : refused) {
            QuarrelOvens x = full();
            c.due("a fault", Check.tell(x, 0, 0, " ?"), NONE);
            c.due("its place", x.fault(1), 1);
            c.due("refused", Check.tell(x, call[0], call[1], ""), -2);
            c.due("fault(0)", x.fault(0), 0);
            c.due("fault(1)", x.fault(1), NONE);
        }
    }

    // "NONE: a FAULT."
    static void promise04FaultBringsNoFurtherOne(Check c) {
        for (int sort = 0; sort < 3; sort++) {
            QuarrelOvens x = new QuarrelOvens();
            c.due("a fault", Check.tell(x, sort, NONE, BROKEN[sort]), NONE);
            c.due("count", x.count(sort), 0);
            c.due("the next one is the first", Check.tell(x, sort, NONE, ""), 0);
        }
    }

    static void promise04FaultLeavesTheOneInItsPlace(Check c) {
        for (int sort = 0; sort < 3; sort++) {
            QuarrelOvens x = full();
            c.due("a fault", Check.tell(x, sort, 0, ONE_LINE[sort] + BROKEN[sort]), NONE);
            c.due("the first", lines(x, sort, 0), 1);
            c.due("another fault", Check.tell(x, sort, 1, ONE_LINE[sort] + "?"), NONE);
            c.due("the second", lines(x, sort, 1), 0);
        }
    }

    static void promise04EachFaultIsNone(Check c) {
        QuarrelOvens x = new QuarrelOvens();
        String[] texts = {"?", "people 9;", "hearth 1 1;".repeat(5), "holds 0 0 0;"};
        for (int i = 0; i < 4; i++) {
            c.due(texts[i], Check.tell(x, 0, NONE, texts[i]), NONE);
            c.due(texts[i], x.fault(0), i + 1);
            c.due("count", x.count(0), 0);
        }
    }

    // a line that is one too many, and wrong itself: NONE, and nothing is told
    static void promise04OneTooManyAndWrongIsNone(Check c) {
        String[] texts = {"subject 1 1;".repeat(6) + "subject 0 1;", "hour;".repeat(40) + "news 6 0;", "burned 0 1 9;".repeat(8) + "burned 3 3 0;"};
        for (int sort = 0; sort < 3; sort++) {
            QuarrelOvens x = full();
            c.due("in the place of one", Check.tell(x, sort, 0, texts[sort]), NONE);
            c.due("it stays", lines(x, sort, 0), 1);
            QuarrelOvens y = new QuarrelOvens();
            c.due("a further one", Check.tell(y, sort, NONE, texts[sort]), NONE);
            c.due("count", y.count(sort), 0);
            c.due("the tape is empty", y.end(1), NONE);
        }
    }

    // ---- 5: fault

    private static void fault(Check c, int sort, String text, int kind, int place) {
        QuarrelOvens x = new QuarrelOvens();
        c.due("text " + sort + " '" + text + "'", Check.tell(x, sort, NONE, text), kind == 0 ? 0 : NONE);
        c.due("fault(0) of '" + text + "'", x.fault(0), kind);
        c.due("fault(1) of '" + text + "'", x.fault(1), place);
    }

    private static void well(Check c, int sort, String... texts) {
        for (String text : texts) fault(c, sort, text, 0, NONE);
    }

    // "what 0: the FAULT, 0 without, 1: its place, NONE without"
    static void promise05WithoutAFault(Check c) {
        well(c, 0, "", "people 1;");
        well(c, 1, "", "hour;");
        well(c, 2, "", "burned 0 1 2;");
    }

    static void promise05PlaceZero(Check c) {
        for (int sort = 0; sort < 3; sort++) fault(c, sort, "?", 1, 0);
    }

    // "NONE for another what"
    static void promise05AnotherWhat(Check c) {
        for (String text : new String[] {"people 1;", "people 9;"}) {
            QuarrelOvens x = new QuarrelOvens();
            Check.tell(x, 0, NONE, text);
            for (int what : new int[] {-1, -2, 2, 3, 10, MIN, MAX}) c.due("fault " + what, x.fault(what), NONE);
        }
    }

    // "Of the latest text()"
    static void promise05OfTheLatestText(Check c) {
        QuarrelOvens x = new QuarrelOvens();
        Check.tell(x, 0, NONE, "people 9;");
        x.feed(0x20202020, 0, 0, 0, 0);
        x.end(3);
        c.due("feed and end leave it", x.fault(0), 2);
        c.due("feed and end leave its place", x.fault(1), 7);
        x.text(0, NONE);
        c.due("another fault", x.fault(0), 0);
        c.due("no place any more", x.fault(1), NONE);
        Check.tell(x, 1, NONE, "hour");
        c.due("a fault of another sort", x.fault(0), 1);
        c.due("its place", x.fault(1), 4);
    }

    // "NUMBERS, 1 or 2 digits"
    static void promise05OneOrTwoDigits(Check c) {
        well(c, 0, "people 0;", "people 00;", "people 8;", "people 08;", "hearth 01 09;", "hearth 9 99;");
        QuarrelOvens x = Check.log("", "burned 00 01 09;burned 7 06 90;");
        int[] wants = {0, 1, 9, 7, 6, 90};
        for (int i = 0; i < 6; i++) c.due("number " + i, x.fact(0, i / 3, i % 3), wants[i]);
    }

    // "(a longer row of digits is no token)"
    static void promise05LongerRowOfDigitsIsNoToken(Check c) {
        fault(c, 0, "people 001;", 1, 7);
        fault(c, 0, "people 000;", 1, 7);
        fault(c, 0, "people 0000000008;", 1, 7);
        fault(c, 0, "hearth 60 099;", 1, 10);
        fault(c, 2, "burned 0 1 100;", 1, 11);
        fault(c, 1, "123", 1, 0);
    }

    // "TOKENS, as long as they go"
    static void promise05TokensGoAsLongAsTheyGo(Check c) {
        fault(c, 0, "peoplex 1;", 1, 0);
        fault(c, 0, "peoplecools 1;", 1, 0);
        fault(c, 1, "hourhour;", 1, 0);
        fault(c, 1, "hou", 1, 0);
        fault(c, 1, "ho ur;", 1, 0);
        fault(c, 0, "hearth 1 2 3;", 1, 11);
        fault(c, 0, "people 1 2;", 1, 9);
    }

    // "blanks (10, 32) between"
    static void promise05BlanksMayBeAnywhereBetween(Check c) {
        well(c, 0, " ", "\n", " \n \n", " people 1;", "people\n\n1 \n;", "people 1;\n", "\n people 1 ; cools 2 ; ");
    }

    static void promise05BlanksNeedNotBeWhereTokensPart(Check c) {
        well(c, 0, "people1;cools2;subject3 4;");
        well(c, 1, "hour;news0 1;");
        fault(c, 0, "1people;", 1, 0);
    }

    static void promise05OtherBytesAreNoBlanks(Check c) {
        for (int sign : new int[] {0, 9, 11, 12, 13, 31, 33, 127, 128, 138, 160, 255}) {
            fault(c, 0, "people" + (char) sign + "1;", 1, 6);
            fault(c, 1, "hour;" + (char) sign, 1, 5);
        }
    }

    static void promise05EachLetterOfAWord(Check c) {
        String[] lines = {"people 1;", "cools 1;", "subject 1 1;", "hearth 1 1;", "holds 0 0 0;", "quarrel 0 1 0 0;", "agree 0 1 0;",
            "deny 0 1 0;", "news 0 0;", "hour;", "burned 0 1 0;"};
        for (int i = 0; i < lines.length; i++) {
            int sort = i < 5 ? 0 : i < 10 ? 1 : 2;
            for (int at = 0; at < lines[i].length() && Character.isLetter(lines[i].charAt(at)); at++) {
                fault(c, sort, lines[i].substring(0, at) + "x" + lines[i].substring(at + 1), 1, 0);
                fault(c, sort, lines[i].substring(0, at) + lines[i].substring(at + 1), 1, 0);
            }
        }
    }

    // "words, rows of letters a .. z"
    static void promise05LettersAToZAlone(Check c) {
        for (int sign : new int[] {'a' - 1, 'z' + 1, 'A', 'Z', 'H', 225, 250}) {
            fault(c, 1, (char) sign + "hour;", 1, 0);
            fault(c, 1, "hour" + (char) sign + ";", 1, 4);
        }
        for (int sign = 'a'; sign <= 'z'; sign++) fault(c, 1, "hour" + (char) sign + ";", 1, 0);
    }

    static void promise05DigitsAlone(Check c) {
        for (int sign : new int[] {'0' - 1, '9' + 1, 176, 185, '-', '+'}) fault(c, 0, "people 1" + (char) sign, 1, 8);
        for (int sign = '0'; sign <= '9'; sign++) fault(c, 2, "burned 0 1 9" + (char) sign + ";", 0, NONE);
        for (int sign = '0'; sign <= '9'; sign++) fault(c, 0, "people " + (char) sign + ";", sign == '9' ? 2 : 0, sign == '9' ? 7 : NONE);
    }

    // ".. goes on": a text is as many lines as it likes, none too
    static void promise05NoLineButThoseOfItsSort(Check c) {
        String[][] words = {{"people", "cools", "subject", "hearth", "holds"}, {"quarrel", "agree", "deny", "news", "hour"}, {"burned"}};
        for (int of = 0; of < 3; of++) {
            for (String word : words[of]) {
                for (int sort = 0; sort < 3; sort++) fault(c, sort, word, 1, sort == of ? word.length() : 0);
            }
        }
        for (int sort = 0; sort < 3; sort++) {
            fault(c, sort, ";", 1, 0);
            fault(c, sort, "1", 1, 0);
            fault(c, sort, ONE_LINE[sort] + ";", 1, ONE_LINE[sort].length());
        }
    }

    /** A line breaks off, or goes on, at each number. */
    private static void breaks(Check c, int sort, String word, int numbers) {
        StringBuilder line = new StringBuilder(word);
        for (int i = 0; i < numbers; i++) {
            fault(c, sort, line + ";", 1, line.length());
            fault(c, sort, line + " x;", 1, line.length() + 1);
            fault(c, sort, line.toString(), 1, line.length());
            line.append(' ').append(i + 1);
        }
        fault(c, sort, line.toString(), 1, line.length());
        fault(c, sort, line + " 1;", 1, line.length() + 1);
        fault(c, sort, line + " " + word, 1, line.length() + 1);
    }

    static void promise05LinesOfAVillage(Check c) {
        breaks(c, 0, "people", 1);
        breaks(c, 0, "cools", 1);
        breaks(c, 0, "subject", 2);
        breaks(c, 0, "hearth", 2);
        breaks(c, 0, "holds", 3);
    }

    static void promise05LinesOfADay(Check c) {
        breaks(c, 1, "quarrel", 4);
        breaks(c, 1, "agree", 3);
        breaks(c, 1, "deny", 3);
        breaks(c, 1, "news", 2);
        breaks(c, 1, "hour", 0);
    }

    static void promise05LinesOfALog(Check c) {
        breaks(c, 2, "burned", 3);
    }

    // "with places (a token's first byte; the end's)"
    static void promise05PlaceOfTheEnd(Check c) {
        fault(c, 1, "hour", 1, 4);
        fault(c, 1, "hour  \n", 1, 7);
        fault(c, 2, "burned 1 2", 1, 10);
        fault(c, 1, " ".repeat(596) + "hour", 1, 600);
        fault(c, 0, " ".repeat(588) + "holds 0 0 0;", 4, 600);
    }

    static void promise05NothingBehindTheEndIsRead(Check c) {
        String[][] rows = {{"hour;hour;", "hour;hour"}, {"news 0 0;news 12 3;", "news 0 0;news 1"}, {"hour;  x", "hour;  "}, {"hourx", "hour"}};
        int[] places = {9, 15, NONE, 4};
        for (int i = 0; i < rows.length; i++) {
            QuarrelOvens x = new QuarrelOvens();
            Check.tell(x, 1, NONE, rows[i][0]);
            c.due("'" + rows[i][1] + "' behind a longer text", Check.tell(x, 1, NONE, rows[i][1]), places[i] != NONE ? NONE : x.count(1) - 1);
            c.due("its place", x.fault(1), places[i]);
            QuarrelOvens y = new QuarrelOvens();
            Check.feed(y, rows[i][0]);
            y.end(rows[i][1].length());
            y.text(1, NONE);
            c.due("'" + rows[i][1] + "', the rest cut", y.fault(1), places[i]);
        }
    }

    // "1 the first byte or token with which no text goes on .. If there is none, .. 2 .. 3 .. If there is none of these, .. 4"
    static void promise05Fault1AheadOfOthers(Check c) {
        fault(c, 0, "people 9;?", 1, 9);
        fault(c, 0, "people 9", 1, 8);
        fault(c, 0, "hearth 1 1;".repeat(5) + "?", 1, 55);
        fault(c, 0, "holds 0 0 0;?", 1, 12);
        fault(c, 1, "hour;".repeat(41) + "hour", 1, 209);
        fault(c, 2, "burned 1 1 1;burned 1 1", 1, 23);
    }

    static void promise05FirstOfSeveralFault1(Check c) {
        fault(c, 0, "people ? ?", 1, 7);
        fault(c, 0, "people people;?", 1, 7);
        fault(c, 0, "people;1234", 1, 6);
    }

    // "the first by place"
    static void promise05FirstByPlaceOf2And3(Check c) {
        String hearths = "hearth 1 1;".repeat(4);
        fault(c, 0, hearths + "hearth 1 1;people 9;", 3, 44);
        fault(c, 0, hearths + "people 9;hearth 1 1;", 2, 51);
        fault(c, 0, hearths + "hearth 0 0;", 3, 44);
        fault(c, 0, "people 9;cools 10;", 2, 7);
        fault(c, 0, "subject 0 0;", 2, 8);
        fault(c, 0, "subject 1 1;".repeat(6) + "hearth 1 1;".repeat(5) + "subject 1 1;", 3, 116);
        fault(c, 1, "quarrel 8 8 6 4;", 2, 8);
    }

    // "(people: how many, 0 .. 8)"
    static void promise05People(Check c) {
        well(c, 0, "people 0;", "people 8;");
        fault(c, 0, "people 9;", 2, 7);
        fault(c, 0, "people 10;", 2, 7);
        fault(c, 0, "people 99;", 2, 7);
        fault(c, 0, "people 9;people 8;", 2, 7);
    }

    // "COOLS, 0 .. 9"
    static void promise05Cools(Check c) {
        well(c, 0, "cools 0;", "cools 9;");
        fault(c, 0, "cools 10;", 2, 6);
        fault(c, 0, "cools 99;", 2, 6);
    }

    // "HEAT, 1 .. 9"
    static void promise05Heat(Check c) {
        well(c, 0, "subject 1 1;", "subject 9 1;");
        fault(c, 0, "subject 0 1;", 2, 8);
        fault(c, 0, "subject 10 1;", 2, 8);
    }

    // "FADES, 1 .. 9"
    static void promise05Fades(Check c) {
        well(c, 0, "subject 1 1;", "subject 1 9;");
        fault(c, 0, "subject 1 0;", 2, 10);
        fault(c, 0, "subject 1 10;", 2, 10);
    }

    // "WANTS, 1 .. 60"
    static void promise05Wants(Check c) {
        well(c, 0, "hearth 1 99;", "hearth 60 99;");
        fault(c, 0, "hearth 0 99;", 2, 7);
        fault(c, 0, "hearth 61 99;", 2, 7);
    }

    // "CRACKS, 1 .. 99, no less than WANTS"
    static void promise05Cracks(Check c) {
        well(c, 0, "hearth 1 1;", "hearth 60 60;", "hearth 1 99;", "hearth 9 10;");
        fault(c, 0, "hearth 1 0;", 2, 9);
        fault(c, 0, "hearth 2 1;", 2, 9);
        fault(c, 0, "hearth 60 59;", 2, 10);
        fault(c, 0, "hearth 10 9;", 2, 10);
    }

    // "(holds: a PERSON, 0 .. 7, a SUBJECT, 0 .. 5, what)"
    static void promise05Holds(Check c) {
        String all = "people 8;" + "subject 1 1;".repeat(6);
        well(c, 0, all + "holds 0 0 0;", all + "holds 7 5 9;");
        fault(c, 0, all + "holds 8 0 0;", 2, 87);
        fault(c, 0, all + "holds 0 6 0;", 2, 89);
        fault(c, 0, all + "holds 0 0 10;", 2, 91);
    }

    // "(quarrel: two PEOPLE, a SUBJECT, a HEARTH, 0 .. 3)"
    static void promise05Quarrel(Check c) {
        well(c, 1, "quarrel 0 7 0 0;", "quarrel 7 0 5 3;");
        fault(c, 1, "quarrel 8 0 0 0;", 2, 8);
        fault(c, 1, "quarrel 0 8 0 0;", 2, 10);
        fault(c, 1, "quarrel 0 1 6 0;", 2, 12);
        fault(c, 1, "quarrel 0 1 0 4;", 2, 14);
    }

    // "(agree, deny: two PEOPLE, a SUBJECT)"
    static void promise05AgreeAndDeny(Check c) {
        well(c, 1, "agree 0 7 0;", "agree 7 0 5;", "deny 0 7 0;", "deny 7 0 5;");
        fault(c, 1, "agree 8 0 0;", 2, 6);
        fault(c, 1, "agree 0 8 0;", 2, 8);
        fault(c, 1, "agree 0 1 6;", 2, 10);
        fault(c, 1, "deny 8 0 0;", 2, 5);
        fault(c, 1, "deny 0 8 0;", 2, 7);
        fault(c, 1, "deny 0 1 6;", 2, 9);
    }

    // "(news: a SUBJECT, what, 0 .. 9)"
    static void promise05News(Check c) {
        well(c, 1, "news 0 0;", "news 5 9;", "news 3 3;");
        fault(c, 1, "news 6 0;", 2, 5);
        fault(c, 1, "news 0 10;", 2, 7);
    }

    // "two PEOPLE, 0 .. 7, BURNED so much, 0 .. 99"
    static void promise05Burned(Check c) {
        well(c, 2, "burned 0 7 0;", "burned 7 0 99;");
        fault(c, 2, "burned 8 0 0;", 2, 7);
        fault(c, 2, "burned 0 8 0;", 2, 9);
    }

    // "of quarrel, agree, deny, burned the second PERSON, if it is the first"
    static void promise05SecondPersonIsTheFirst(Check c) {
        for (int p = 0; p < 8; p++) {
            fault(c, 1, "quarrel " + p + " " + p + " 0 0;", 2, 10);
            fault(c, 1, "agree " + p + " " + p + " 0;", 2, 8);
            fault(c, 1, "deny " + p + " " + p + " 0;", 2, 7);
            fault(c, 2, "burned " + p + " " + p + " 0;", 2, 9);
        }
        well(c, 1, "quarrel 1 2 1 1;", "agree 1 2 1;", "deny 1 2 1;", "news 1 1;");
    }

    // "3 a 7th SUBJECT .. at its first token"
    static void promise05SeventhSubject(Check c) {
        String six = "subject 1 1;".repeat(6);
        well(c, 0, six, six + "hearth 1 1;people 1;cools 1;");
        fault(c, 0, six + "subject 1 1;", 3, 72);
        fault(c, 0, six + " \nsubject 1 1;subject 1 1;", 3, 74);
    }

    // "a 5th HEARTH"
    static void promise05FifthHearth(Check c) {
        String four = "hearth 1 1;".repeat(4);
        well(c, 0, four, four + "subject 1 1;people 1;cools 1;");
        fault(c, 0, four + "hearth 1 1;", 3, 44);
        fault(c, 0, four + " hearth 1 1;", 3, 45);
    }

    // "a 41st DEED"
    static void promise05FortyFirstDeed(Check c) {
        String forty = "hour;".repeat(40);
        well(c, 1, forty, "hour;".repeat(39) + "quarrel 0 1 0 0;");
        for (String deed : new String[] {"quarrel 0 1 0 0;", "agree 0 1 0;", "deny 0 1 0;", "news 0 0;", "hour;"}) {
            fault(c, 1, forty + deed, 3, 200);
            fault(c, 1, "hour;".repeat(39) + deed + "\nhour;", 3, 196 + deed.length());
        }
    }

    // "a 9th FACT"
    static void promise05NinthFact(Check c) {
        String eight = "burned 0 1 9;".repeat(8);
        well(c, 2, eight);
        fault(c, 2, eight + "burned 0 1 9;", 3, 104);
        fault(c, 2, eight + "\nburned 0 1 9;burned 0 1 9;", 3, 105);
    }

    /** A line with a NUMBER that can't be, at a place in it: behind all lines that may be, it is one too many at its first token. */
    private static void tooManyAndWrong(Check c, int sort, String full, String line, int place) {
        int oneLess = full.length() - full.indexOf(';') - 1;
        fault(c, sort, full.substring(0, oneLess) + line, 2, oneLess + place);
        fault(c, sort, full + line, 3, full.length());
        fault(c, sort, full + "\n " + line + line, 3, full.length() + 2);
        String open = full + line.substring(0, line.length() - 1);
        fault(c, sort, open, 1, open.length());
    }

    // "a line with such a NUMBER tells its SUBJECT .. all the same"; "the first by place .. 3 a 7th SUBJECT .. at its first token"
    static void promise05SeventhSubjectWithAWrongNumber(Check c) {
        String six = "subject 1 1;".repeat(6);
        tooManyAndWrong(c, 0, six, "subject 0 1;", 8);
        tooManyAndWrong(c, 0, six, "subject 10 1;", 8);
        tooManyAndWrong(c, 0, six, "subject 1 0;", 10);
        tooManyAndWrong(c, 0, six, "subject 1 10;", 10);
        tooManyAndWrong(c, 0, six, "subject 0 0;", 8);
    }

    // ".. its .. HEARTH .. all the same"; "a 5th HEARTH"
    static void promise05FifthHearthWithAWrongNumber(Check c) {
        String four = "hearth 1 1;".repeat(4);
        tooManyAndWrong(c, 0, four, "hearth 0 1;", 7);
        tooManyAndWrong(c, 0, four, "hearth 61 99;", 7);
        tooManyAndWrong(c, 0, four, "hearth 1 0;", 9);
        tooManyAndWrong(c, 0, four, "hearth 2 1;", 9);
        tooManyAndWrong(c, 0, four, "hearth 0 0;", 7);
    }

    // ".. its .. DEED .. all the same"; "a 41st DEED"
    static void promise05FortyFirstDeedWithAWrongNumber(Check c) {
        String forty = "hour;".repeat(40);
        tooManyAndWrong(c, 1, forty, "quarrel 8 0 0 0;", 8);
        tooManyAndWrong(c, 1, forty, "quarrel 3 3 0 0;", 10);
        tooManyAndWrong(c, 1, forty, "quarrel 0 1 6 0;", 12);
        tooManyAndWrong(c, 1, forty, "quarrel 0 1 0 4;", 14);
        tooManyAndWrong(c, 1, forty, "agree 3 3 0;", 8);
        tooManyAndWrong(c, 1, forty, "agree 0 1 6;", 10);
        tooManyAndWrong(c, 1, forty, "deny 3 3 0;", 7);
        tooManyAndWrong(c, 1, forty, "deny 0 1 6;", 9);
        tooManyAndWrong(c, 1, forty, "news 6 0;", 5);
        tooManyAndWrong(c, 1, forty, "news 0 10;", 7);
    }

    // ".. its .. FACT all the same"; "a 9th FACT"
    static void promise05NinthFactWithAWrongNumber(Check c) {
        String eight = "burned 0 1 9;".repeat(8);
        tooManyAndWrong(c, 2, eight, "burned 8 0 0;", 7);
        tooManyAndWrong(c, 2, eight, "burned 0 8 0;", 9);
        tooManyAndWrong(c, 2, eight, "burned 3 3 0;", 9);
    }

    // a line ahead with such a NUMBER is the first by place, however many lines come behind it
    static void promise05ALineWithAWrongNumberCountsToo(Check c) {
        fault(c, 0, "subject 0 1;" + "subject 1 1;".repeat(6), 2, 8);
        fault(c, 0, "hearth 0 1;" + "hearth 1 1;".repeat(4), 2, 7);
        fault(c, 1, "news 6 0;" + "hour;".repeat(40), 2, 5);
        fault(c, 2, "burned 0 0 0;" + "burned 0 1 0;".repeat(8), 2, 9);
    }

    // "at the end's place, of a VILLAGE: 4 a PERSON .. that was told of (by holds) and is not there"
    static void promise05Fault4Person(Check c) {
        fault(c, 0, "subject 1 1;holds 0 0 0;", 4, 24);
        fault(c, 0, "people 2;subject 1 1;holds 2 0 0;", 4, 33);
        well(c, 0, "people 2;subject 1 1;holds 1 0 0;", "people 8;subject 1 1;holds 7 0 0;");
        fault(c, 0, "people 7;subject 1 1;holds 7 0 0;", 4, 33);
    }

    // "a SUBJECT that was told of (by holds) and is not there"
    static void promise05Fault4Subject(Check c) {
        fault(c, 0, "people 1;holds 0 0 0;", 4, 21);
        fault(c, 0, "people 1;subject 1 1;holds 0 1 0;", 4, 33);
        well(c, 0, "people 1;subject 1 1;holds 0 0 0;", "people 1;" + "subject 1 1;".repeat(6) + "holds 0 5 0;");
        fault(c, 0, "people 1;" + "subject 1 1;".repeat(5) + "holds 0 5 0;", 4, 81);
    }

    static void promise05Fault4OfTheWholeText(Check c) {
        well(c, 0, "holds 7 0 0;subject 1 1;people 8;");
        fault(c, 0, "people 8;subject 1 1;holds 7 0 0;people 7;", 4, 42);
        well(c, 0, "people 1;subject 1 1;holds 7 0 0;people 8;");
        fault(c, 0, "people 1;subject 1 1;holds 1 0 0;holds 0 0 0;", 4, 45);
    }

    static void promise05Fault4AtTheEndsPlace(Check c) {
        fault(c, 0, "holds 0 0 0; \n ", 4, 15);
        fault(c, 0, "holds 0 0 0;people 0;", 4, 21);
    }

    static void promise05Fault4OnlyIfThereIsNoOther(Check c) {
        fault(c, 0, "holds 0 0 0;people 9;", 2, 19);
        fault(c, 0, "holds 0 0 0;" + "hearth 1 1;".repeat(5), 3, 56);
    }

    static void promise05Fault4IsOfAVillageAlone(Check c) {
        well(c, 1, "quarrel 6 7 5 3;agree 6 7 5;deny 6 7 5;news 5 9;");
        well(c, 2, "burned 6 7 99;");
    }
}
