/** Each promise by hand: ordinary inputs, the edges that the document names, and wrong inputs. */
final class PromiseTest {
    private static final Check CHECK = new Check("PromiseTest");
    private static final int NONE = QuarrelOvens.NONE;

    private static final String V = "people 4;cools 3;subject 5 2;subject 3 1;hearth 6 20;hearth 10 30;"
        + "holds 0 0 2;holds 1 0 7;holds 2 0 7;holds 0 1 9;holds 1 1 0;holds 3 1 4;";
    private static final String EMPTY = "";
    /** Three subjects, so that 1 and 2 marry first, and others would have more. */
    private static final String PATH = "people 4;subject 1 1;subject 1 1;subject 1 1;hearth 1 9;"
        + "holds 0 0 0;holds 1 0 5;holds 1 1 0;holds 2 1 6;holds 2 2 0;holds 3 2 5;";

    public static void main(String[] args) {
        newObject();
        tape();
        texts();
        faultsOfForm();
        faultsOfNumbers();
        faultsOfCounts();
        faultsOfPlaces();
        villages();
        apart();
        deeds();
        states();
        deedsThatCannotBe();
        cracking();
        keenestAndLasts();
        plans();
        marriages();
        hopes();
        logs();
        drawn();
        spent();
        kept();
        calm();
        hired();
        filled();
        halves();
        circle();
        kindred();
        meansAndDistances();
        after();
        next();
        images();
        wrongVillages();
        CHECK.end();
    }

    private static void due(String call, long got, long want) {
        CHECK.due(call, got, want);
    }

    // 1, 33
    private static void newObject() {
        QuarrelOvens x = new QuarrelOvens();
        due("NONE", NONE, -1);
        for (int sort = 0; sort < 3; sort++) due("new count", x.count(sort), 0);
        due("count(-1)", x.count(-1), -2);
        due("count(3)", x.count(3), -2);
        due("new fault(0)", x.fault(0), 0);
        due("new fault(1)", x.fault(1), NONE);
        due("new tape", x.end(0), 0);
        due("new tape has no byte", x.end(1), NONE);
        for (int k = -1; k < 4; k++) CHECK.due("new again", x.again(k), false);
    }

    // 2, 3
    private static void tape() {
        QuarrelOvens x = new QuarrelOvens();
        for (int i = 1; i <= 30; i++) due("feed", x.feed(i, 0, 0, 0, 0), 20 * i);
        due("feed, full", x.feed(0, 0, 0, 0, 0), NONE);
        due("end(601)", x.end(601), NONE);
        due("end(600)", x.end(600), 600);
        due("end(-1)", x.end(-1), NONE);
        due("end(581)", x.end(581), 581);
        due("feed, one too many", x.feed(0, 0, 0, 0, 0), NONE);
        due("end(582), gone", x.end(582), NONE);
        due("end(580)", x.end(580), 580);
        due("feed again", x.feed(0, 0, 0, 0, 0), 600);
        QuarrelOvens y = new QuarrelOvens();
        y.feed(0x70656f70, 0x6c653b00, 0, 0, 0);
        due("highest byte first", y.text(0, NONE), NONE);
        due("highest byte first, place", y.fault(1), 6);
    }

    // 4, 33
    private static void texts() {
        QuarrelOvens x = new QuarrelOvens();
        refused(x, 3, NONE);
        refused(x, -1, NONE);
        refused(x, 0, 0);
        refused(x, 0, -2);
        due("a further one", Check.tell(x, 0, NONE, "people 3;"), 0);
        due("the tape is empty", x.end(1), NONE);
        due("count", x.count(0), 1);
        due("a second one", Check.tell(x, 0, NONE, "people 2;"), 1);
        Check.feed(x, "people 8");
        due("a fault", x.text(0, 1), NONE);
        due("the tape is empty", x.end(1), NONE);
        due("fault", x.fault(0), 1);
        due("fault stays", x.village(1, 0), 2);
        refused(x, 0, NONE);
        refused(x, 0, 2);
        refused(x, 1, 0);
        due("in the place of one", Check.tell(x, 0, 0, "people 7;"), 0);
        due("struck", x.village(0, 0), 7);
        due("not struck", x.village(1, 0), 2);
        due("count", x.count(0), 2);
        due("a day", Check.tell(x, 1, NONE, "hour;"), 0);
        due("a log", Check.tell(x, 2, NONE, ""), 0);
        due("days", x.count(1), 1);
        due("logs", x.count(2), 1);
    }

    /** No text is read then, but the tape is taken. */
    private static void refused(QuarrelOvens x, int sort, int at) {
        int villages = x.count(0);
        Check.feed(x, "people 1;");
        due("refused: text(" + sort + ", " + at + ")", x.text(sort, at), -2);
        due("refused: no fault", x.fault(0), 0);
        due("refused: no place", x.fault(1), NONE);
        due("refused: the tape is empty", x.feed(0, 0, 0, 0, 0), 20);
        due("refused: nothing of it is left", x.end(0), 0);
        due("refused: count", x.count(0), villages);
    }

    private static void fault(int sort, String text, int kind, int place) {
        QuarrelOvens x = new QuarrelOvens();
        due("text " + sort + " '" + text + "'", Check.tell(x, sort, NONE, text), kind == 0 ? 0 : NONE);
        due("fault(0) of '" + text + "'", x.fault(0), kind);
        due("fault(1) of '" + text + "'", x.fault(1), place);
        due("fault(2)", x.fault(2), NONE);
        due("fault(-1)", x.fault(-1), NONE);
    }

    // 5, fault 1
    private static void faultsOfForm() {
        fault(0, "", 0, NONE);
        fault(0, " \n ", 0, NONE);
        fault(0, "people3;cools\n 4 ;subject09 1;", 0, NONE);
        fault(0, "people 3", 1, 8);
        fault(0, "people 3  ", 1, 10);
        fault(0, "people", 1, 6);
        fault(0, "people;", 1, 6);
        fault(0, "people 3 4;", 1, 9);
        fault(0, "people 123;", 1, 7);
        fault(0, "people 003;", 1, 7);
        fault(0, "people 3;;", 1, 9);
        fault(0, "peopl 3;", 1, 0);
        fault(0, "peoples 3;", 1, 0);
        fault(0, "People 3;", 1, 0);
        fault(0, "people\t3;", 1, 6);
        fault(0, "people 3;\0", 1, 9);
        fault(0, "people 3;" + (char) 200, 1, 9);
        fault(0, "3;", 1, 0);
        fault(0, "hour;", 1, 0);
        fault(0, "people 3a;", 1, 8);
        fault(0, "people -1;", 1, 7);
        fault(0, "people 9;cools 11;x", 1, 18);
        fault(1, "hour;people 3;", 1, 5);
        fault(1, "hour 1;", 1, 5);
        fault(1, "burned 0 1 2;", 1, 0);
        fault(2, "burned 0 1;", 1, 10);
        fault(2, "quarrel 0 1 0 0;", 1, 0);
        nothingBehindTheEnd();
    }

    // what an earlier text or a longer tape had behind the end is not read
    private static void nothingBehindTheEnd() {
        String[][] rows = {{"hour;hourx", "hour;hour"}, {"news 0 0;news 12 3;", "news 0 0;news 1"}, {"hour;      x", "hour;  "}};
        int[] places = {9, 15, NONE};
        for (int i = 0; i < rows.length; i++) {
            QuarrelOvens x = new QuarrelOvens();
            Check.tell(x, 1, NONE, rows[i][0]);
            Check.tell(x, 1, NONE, rows[i][1]);
            due("nothing behind '" + rows[i][1] + "'", x.fault(1), places[i]);
            QuarrelOvens y = new QuarrelOvens();
            Check.feed(y, rows[i][0]);
            y.end(rows[i][1].length());
            y.text(1, NONE);
            due("nothing behind the end of '" + rows[i][1] + "'", y.fault(1), places[i]);
        }
        fault(1, "hour;".repeat(40) + " ".repeat(400), 0, NONE);
        fault(1, " ".repeat(596) + "hour", 1, 600);
        fault(1, " ".repeat(595) + "hour;", 0, NONE);
        fault(2, " ".repeat(591) + "burned 12", 1, 600);
    }

    // 5, fault 2
    private static void faultsOfNumbers() {
        fault(0, "people 8;cools 9;", 0, NONE);
        fault(0, "people 9;", 2, 7);
        fault(0, "cools 10;", 2, 6);
        fault(0, "subject 0 1;", 2, 8);
        fault(0, "subject 1 0;", 2, 10);
        fault(0, "subject 10 0;", 2, 8);
        fault(0, "hearth 60 99;", 0, NONE);
        fault(0, "hearth 61 99;", 2, 7);
        fault(0, "hearth 0 99;", 2, 7);
        fault(0, "hearth 5 5;", 0, NONE);
        fault(0, "hearth 5 4;", 2, 9);
        fault(0, "holds 8 0 0;", 2, 6);
        fault(0, "holds 0 6 0;", 2, 8);
        fault(0, "holds 0 0 10;", 2, 10);
        fault(1, "quarrel 7 0 5 3;agree 0 7 5;deny 1 2 0;news 5 9;", 0, NONE);
        fault(1, "quarrel 8 0 5 3;", 2, 8);
        fault(1, "quarrel 0 8 5 3;", 2, 10);
        fault(1, "quarrel 0 0 5 3;", 2, 10);
        fault(1, "quarrel 0 1 6 3;", 2, 12);
        fault(1, "quarrel 0 1 5 4;", 2, 14);
        fault(1, "agree 1 1 0;", 2, 8);
        fault(1, "agree 1 2 6;", 2, 10);
        fault(1, "deny 3 3 0;", 2, 7);
        fault(1, "deny 8 3 0;", 2, 5);
        fault(1, "news 6 0;", 2, 5);
        fault(1, "news 0 10;", 2, 7);
        fault(2, "burned 7 0 99;", 0, NONE);
        fault(2, "burned 8 0 99;", 2, 7);
        fault(2, "burned 2 2 99;", 2, 9);
        fault(2, "burned 2 8 99;", 2, 9);
    }

    // 5, fault 3
    private static void faultsOfCounts() {
        String subjects = "subject 1 1;".repeat(6);
        fault(0, subjects, 0, NONE);
        fault(0, subjects + "subject 1 1;", 3, 72);
        fault(0, subjects + "subject 0 1;", 3, 72);
        fault(0, "subject 1 0;" + subjects, 2, 10);
        fault(0, subjects + "cools 99;subject 1 1;", 2, 78);
        fault(0, "hearth 1 1;".repeat(4), 0, NONE);
        fault(0, "hearth 1 1;".repeat(5), 3, 44);
        fault(0, "hearth 1 1;".repeat(5) + "hearth", 1, 61);
        fault(1, "hour;".repeat(40), 0, NONE);
        fault(1, "hour;".repeat(41), 3, 200);
        fault(2, "burned 0 1 9;".repeat(8), 0, NONE);
        fault(2, "burned 0 1 9;".repeat(9), 3, 104);
    }

    // 5, fault 4
    private static void faultsOfPlaces() {
        fault(0, "people 1;subject 1 1;holds 0 0 0;", 0, NONE);
        fault(0, "holds 0 0 0;subject 1 1;people 1;", 0, NONE);
        fault(0, "people 1;subject 1 1;holds 1 0 0;", 4, 33);
        fault(0, "people 1;subject 1 1;holds 0 1 0; ", 4, 34);
        fault(0, "people 2;subject 1 1;holds 1 0 0;people 1;", 4, 42);
        fault(0, "holds 1 0 0;cools 10;", 2, 18);
    }

    // 6
    private static void villages() {
        QuarrelOvens x = Check.village(V);
        int[] whats = {0, 1, 2, 3, 10, 11, 20, 21, 30, 31, 40, 41, 100, 101, 110, 111, 120, 121, 130, 131};
        int[] wants = {4, 2, 2, 3, 5, 3, 2, 1, 6, 10, 20, 30, 2, 9, 7, 0, 7, NONE, NONE, 4};
        for (int i = 0; i < whats.length; i++) due("village(0, " + whats[i] + ")", x.village(0, whats[i]), wants[i]);
        for (int what : new int[] {-1, 4, 9, 12, 22, 32, 42, 99, 102, 109, 140, 1000, Integer.MAX_VALUE, Integer.MIN_VALUE}) {
            due("village(0, " + what + ")", x.village(0, what), -2);
        }
        QuarrelOvens y = Check.village("people 5;holds 0 0 1;subject 1 1;cools 5;people 2;holds 0 0 3;cools 0;");
        due("people strike", y.village(0, 0), 2);
        due("cools strike", y.village(0, 3), 0);
        due("holds strike", y.village(0, 100), 3);
        due("COOLS at first", Check.village(EMPTY).village(0, 3), 2);
        due("nothing is held over", retold().village(0, 100), NONE);
    }

    private static QuarrelOvens retold() {
        QuarrelOvens x = Check.village(V);
        Check.tell(x, 0, 0, "people 1;subject 1 1;");
        return x;
    }

    // 7
    private static void apart() {
        QuarrelOvens x = Check.village(V);
        due("apart", x.apart(0, 0, 1, 0, false), 5);
        due("apart, turned", x.apart(0, 1, 0, 0, false), 5);
        due("burns", x.apart(0, 0, 1, 1, true), 27);
        due("not apart", x.apart(0, 1, 2, 0, false), 0);
        due("not apart, burns", x.apart(0, 1, 2, 0, true), 0);
        due("one holds nothing", x.apart(0, 0, 3, 0, false), NONE);
        due("one", x.apart(0, 1, 1, 0, true), NONE);
        due("no PERSON", x.apart(0, 0, 4, 0, false), NONE);
        due("no PERSON", x.apart(0, -1, 0, 0, false), NONE);
        due("no SUBJECT", x.apart(0, 0, 1, 2, false), NONE);
        due("no SUBJECT", x.apart(0, 0, 1, -1, false), NONE);
        due("no VILLAGE", x.apart(1, 0, 1, 0, false), NONE);
    }

    // 8
    private static void deeds() {
        QuarrelOvens x = Check.day(EMPTY, "quarrel 1 2 3 0;agree 4 5 1;deny 6 7 2;news 3 9;hour;");
        due("deeds", x.deed(0, NONE, 0), 5);
        int[][] rows = {{0, 1, 2, 3, 0}, {1, 4, 5, 1, NONE}, {2, 6, 7, 2, NONE}, {3, 3, 9, NONE, NONE}, {4, NONE, NONE, NONE, NONE}};
        for (int k = 0; k < 5; k++) {
            for (int what = 0; what < 5; what++) due("deed " + k + " " + what, x.deed(0, k, what), rows[k][what]);
            due("deed, another what", x.deed(0, k, 5), -2);
            due("deed, another what", x.deed(0, k, -1), -2);
        }
        due("deed(0, NONE, 1)", x.deed(0, NONE, 1), -2);
        due("deed(0, 5, 0)", x.deed(0, 5, 0), -2);
        due("deed(0, -2, 0)", x.deed(0, -2, 0), -2);
        due("deed(1, NONE, 0)", x.deed(1, NONE, 0), -2);
    }

    // 9, 10
    private static void states() {
        QuarrelOvens x = Check.day(V, "quarrel 0 3 1 0;agree 0 1 0;deny 3 2 0;hour;news 1 5;quarrel 0 1 1 0;");
        due("stop", x.stop(0, 0), 5);
        int[] whats = {0, 1, 2, 3, 10, 11, 20, 21, 100, 110, 120, 130, 101, 121, 131};
        int[][] wants = {
            {0, 0, 0, 0, 0, 0, 5, 3, 2, 7, 7, NONE, 9, NONE, 4},
            {0, 0, 9, 15, 15, 0, 5, 2, 2, 7, 7, NONE, 9, NONE, 4},
            {0, 0, 9, 15, 15, 0, 5, 2, 4, 4, 7, NONE, 9, NONE, 4},
            {0, 0, 9, 15, 15, 0, 5, 2, 4, 4, 7, 2, 9, NONE, 4},
            {1, 0, 0, 15, 12, 0, 5, 2, 4, 4, 7, 2, 9, NONE, 4},
            {1, 0, 0, 15, 12, 0, 5, 9, 4, 4, 7, 2, 5, 5, 5}};
        for (int n = 0; n < wants.length; n++) {
            for (int i = 0; i < whats.length; i++) due("state " + n + " " + whats[i], x.state(0, 0, n, whats[i]), wants[n][i]);
            for (int what : new int[] {-1, 4, 12, 22, 30, 40, 102, 140}) due("state " + n + " " + what, x.state(0, 0, n, what), -2);
        }
        due("no STATE", x.state(0, 0, 6, 0), -2);
        due("no STATE", x.state(0, 0, -1, 0), -2);
        due("no DAY", x.state(0, 1, 0, 0), -2);
        due("no DAY", x.stop(0, 1), NONE);
        due("no VILLAGE", x.state(1, 0, 0, 0), -2);
        due("no VILLAGE", x.stop(-1, 0), NONE);
        due("what was told stays", x.village(0, 11), 3);
        due("an empty DAY", Check.day(V, EMPTY).stop(0, 0), 0);
    }

    private static void stops(String day, int stop) {
        due("stop of " + day, Check.day(V, day).stop(0, 0), stop);
    }

    // 9
    private static void deedsThatCannotBe() {
        stops("quarrel 0 4 0 0;", 0);
        stops("quarrel 4 0 0 0;", 0);
        stops("quarrel 0 1 2 0;", 0);
        stops("quarrel 0 1 0 2;", 0);
        stops("quarrel 0 3 0 0;", 0);
        stops("quarrel 1 2 0 0;", 0);
        stops("quarrel 0 1 1 1;quarrel 0 2 0 1;", 1);
        stops("quarrel 0 1 1 1;quarrel 2 1 0 1;", 1);
        stops("quarrel 1 3 1 1;hour;quarrel 1 3 1 1;hour;quarrel 3 1 1 1;hour;quarrel 1 3 1 1;", 6);
        stops("quarrel 0 1 1 1;hour;quarrel 0 1 1 1;hour;quarrel 0 1 1 1;", 4);
        stops("agree 0 2 0;agree 1 2 0;agree 1 2 0;agree 0 3 0;", 3);
        stops("agree 0 4 0;", 0);
        stops("agree 0 1 2;", 0);
        stops("deny 2 3 1;deny 3 2 0;", 2);
        stops("deny 2 0 5;", 0);
        stops("deny 0 2 1;", 0);
        stops("deny 0 4 1;", 0);
        stops("deny 4 0 1;", 0);
        stops("news 1 0;news 2 0;", 1);
        stops("hour;".repeat(40), 40);
    }

    // 10
    private static void cracking() {
        QuarrelOvens x = Check.day(V, "quarrel 0 1 0 0;hour;quarrel 1 3 1 0;");
        due("it cracks", x.state(0, 0, 1, 1), 1);
        due("it cracks, WARM", x.state(0, 0, 1, 10), 0);
        due("it burned", x.state(0, 0, 1, 3), 25);
        due("HEAT fades", x.state(0, 0, 1, 20), 3);
        due("for good", x.stop(0, 0), 2);
        String just = "people 2;cools 9;subject 5 9;hearth 1 25;holds 0 0 0;holds 1 0 5;";
        QuarrelOvens y = Check.day(just, "quarrel 0 1 0 0;hour;hour;hour;quarrel 0 1 0 0;");
        due("as much as CRACKS", y.state(0, 0, 1, 10), 25);
        due("not cracked", y.state(0, 0, 1, 1), 0);
        due("HEAT 0 at least", y.state(0, 0, 1, 20), 0);
        due("WARM 0 at least", y.state(0, 0, 4, 10), 0);
        due("hour", y.state(0, 0, 4, 0), 3);
        due("without HEAT", y.stop(0, 0), 4);
    }

    // 11, 12, 13
    private static void keenestAndLasts() {
        QuarrelOvens x = Check.village(V);
        due("keenest", x.keenest(0, 0, 1, false), 1);
        due("keenest much", x.keenest(0, 1, 0, true), 27);
        due("keenest", x.keenest(0, 0, 2, false), 0);
        due("keenest, on none", x.keenest(0, 1, 2, false), NONE);
        due("keenest, on none", x.keenest(0, 2, 3, true), NONE);
        due("keenest, one", x.keenest(0, 1, 1, false), NONE);
        due("keenest, no PERSON", x.keenest(0, 1, 4, false), NONE);
        QuarrelOvens y = Check.village("people 2;subject 1 1;subject 3 1;subject 2 1;holds 0 0 1;holds 1 0 7;"
            + "holds 0 1 0;holds 1 1 2;holds 0 2 4;holds 1 2 1;");
        due("keenest, the least", y.keenest(0, 0, 1, false), 0);
        due("lasts", x.lasts(0, 0, 1, 0, false), 3);
        due("lasts much", x.lasts(0, 0, 1, 0, true), 45);
        due("lasts much", x.lasts(0, 0, 3, 1, true), 30);
        due("lasts, not apart", x.lasts(0, 1, 2, 0, false), 0);
        due("lasts much, not apart", x.lasts(0, 1, 2, 0, true), 0);
        due("lasts, nothing held", x.lasts(0, 0, 3, 0, false), NONE);
        due("lasts, one", x.lasts(0, 0, 0, 0, false), NONE);
        due("lasts, no SUBJECT", x.lasts(0, 0, 1, 2, true), NONE);
        due("lasts nine times", Check.village("people 2;subject 9 1;holds 0 0 0;holds 1 0 9;").lasts(0, 0, 1, 0, false), 9);
        due("together", x.together(0, 0, 1), 99);
        due("together", x.together(0, 3, 0), 30);
        due("together, nothing", x.together(0, 2, 3), 0);
        due("together, one", x.together(0, 2, 2), NONE);
        due("together, no PERSON", x.together(0, 2, 4), NONE);
    }

    // 14
    private static void plans() {
        QuarrelOvens x = Check.village(V);
        due("plan", x.plan(0, NONE), 37);
        due("plan 0", x.plan(0, 0), 113);
        due("plan 1", x.plan(0, 1), 2);
        due("plan 2", x.plan(0, 2), NONE);
        due("plan -2", x.plan(0, -2), NONE);
        due("no HEARTHS", Check.village("people 2;").plan(0, NONE), 0);
        due("no HEARTHS, 0", Check.village("people 2;").plan(0, 0), NONE);
        String two = "people 2;subject 1 1;subject 1 1;holds 0 0 1;holds 1 0 5;holds 0 1 5;holds 1 1 1;";
        due("the first of several", Check.village(two + "hearth 4 4;").plan(0, 0), 1);
        due("no such row", Check.village(two + "hearth 5 9;").plan(0, NONE), NONE);
        due("no such row", Check.village(two + "hearth 1 3;").plan(0, 0), NONE);
        due("nobody at two", Check.village(two + "hearth 1 4;hearth 1 4;").plan(0, NONE), NONE);
        String four = "people 4;subject 1 1;hearth 1 9;hearth 1 9;holds 0 0 1;holds 1 0 5;holds 2 0 1;holds 3 0 5;";
        due("no SUBJECT at two", Check.village(four).plan(0, NONE), NONE);
        QuarrelOvens y = Check.village(PATH + "hearth 1 9;");
        due("the first row", y.plan(0, NONE), 10);
        due("the first row, 0", y.plan(0, 0), 1);
        due("the first row, 1", y.plan(0, 1), 223);
    }

    // 15
    private static void marriages() {
        QuarrelOvens x = Check.village(V);
        int[] wants = {1, 0, NONE, NONE};
        for (int p = 0; p < 4; p++) due("married " + p, x.married(0, p), wants[p]);
        due("most", x.married(0, NONE), 99);
        due("no PERSON", x.married(0, 4), -2);
        due("no PERSON", x.married(0, -2), -2);
        QuarrelOvens y = Check.village(PATH);
        int[] path = {NONE, 2, 1, NONE};
        for (int p = 0; p < 4; p++) due("married " + p, y.married(0, p), path[p]);
        due("most, other couples", y.married(0, NONE), 10);
        QuarrelOvens z = Check.village("people 4;subject 1 1;holds 0 0 1;holds 1 0 0;holds 2 0 1;holds 3 0 0;");
        due("the first of several", z.married(0, 0), 1);
        due("and then the next", z.married(0, 2), 3);
        due("nobody there", Check.village(EMPTY).married(0, NONE), 0);
    }

    // 16
    private static void hopes() {
        QuarrelOvens x = Check.village(V);
        due("hopes", x.hopes(0, 0, 1, 0, 3, false), 759);
        due("hopes under", x.hopes(0, 0, 1, 0, 3, true), 20);
        due("hopes, never", x.hopes(0, 0, 1, 0, 0, false), 45);
        due("hopes, at once", x.hopes(0, 0, 1, 0, 10, false), 25);
        due("hopes, at once, under", x.hopes(0, 0, 1, 0, 10, true), 1);
        due("hopes, not apart", x.hopes(0, 1, 2, 0, 5, false), 0);
        due("hopes, not apart, under", x.hopes(0, 1, 2, 0, 5, true), 1);
        due("another p", x.hopes(0, 0, 1, 0, 11, false), NONE);
        due("another p", x.hopes(0, 0, 1, 0, -1, true), NONE);
        due("nothing held", x.hopes(0, 0, 3, 0, 5, false), NONE);
        QuarrelOvens y = Check.village("people 2;subject 9 1;holds 0 0 0;holds 1 0 1;");
        // the sum of (9 - i) (9/10)^i, i from 0 to 8
        due("nine quarrels", y.hopes(0, 0, 1, 0, 1, false), 3486784401L);
        due("nine quarrels, under", y.hopes(0, 0, 1, 0, 1, true), 100000000L);
    }

    // 17, 18
    private static void logs() {
        QuarrelOvens x = Check.log(V, "burned 0 1 18;burned 0 3 5;");
        due("facts", x.fact(0, NONE, 0), 2);
        due("fact 1 0", x.fact(0, 1, 0), 0);
        due("fact 1 1", x.fact(0, 1, 1), 3);
        due("fact 0 2", x.fact(0, 0, 2), 18);
        due("fact 0 3", x.fact(0, 0, 3), -2);
        due("fact 0 -1", x.fact(0, 0, -1), -2);
        due("fact 2 0", x.fact(0, 2, 0), -2);
        due("fact NONE 1", x.fact(0, NONE, 1), -2);
        due("no LOG", x.fact(1, NONE, 0), -2);
        due("fits", x.fits(0, 0, 0), 1);
        due("sure", x.fits(0, 0, 1), 1);
        due("the first", x.fits(0, 0, 10), 11);
        due("no second", x.fits(0, 0, 11), -2);
        due("another what", x.fits(0, 0, 3), -2);
        due("another what", x.fits(0, 0, -1), -2);
        due("no LOG", x.fits(0, 1, 0), -2);
        QuarrelOvens none = Check.log(V, "burned 0 1 99;");
        due("nothing fits", none.fits(0, 0, 0), 0);
        due("nothing sure", none.fits(0, 0, 1), NONE);
        due("nothing to ask", none.fits(0, 0, 2), NONE);
        due("nothing first", none.fits(0, 0, 10), -2);
        QuarrelOvens far = Check.log(V, "burned 0 4 0;");
        for (int what = 0; what < 12; what++) due("a PERSON is not there", far.fits(0, 0, what), -2);
        QuarrelOvens zero = Check.log(V, "burned 2 3 0;burned 2 3 0;burned 0 2 25;");
        due("those that burn 0 fade, too", zero.fits(0, 0, 0), 0);
        QuarrelOvens zeros = Check.log(V, "burned 2 3 0;burned 2 3 0;burned 0 2 5;");
        due("those that burn 0 fade, too", zeros.fits(0, 0, 10), 0);
        due("one SUBJECT", zeros.fits(0, 0, 1), 0);
        asked();
    }

    // 18
    private static void asked() {
        QuarrelOvens x = Check.log("people 3;subject 2 1;holds 0 0 1;holds 1 0 1;holds 2 0 4;", EMPTY);
        due("all fit", x.fits(0, 0, 0), 10);
        due("the last", x.fits(0, 0, 19), 9);
        due("several, one SUBJECT", x.fits(0, 0, 1), 0);
        due("ask", x.fits(0, 0, 2), 2);
        QuarrelOvens y = Check.log(V, EMPTY);
        due("all fit", y.fits(0, 0, 0), 20);
        due("not one SUBJECT", y.fits(0, 0, 1), NONE);
        due("the last", y.fits(0, 0, 29), 19);
        QuarrelOvens hot = Check.log("people 2;subject 9 9;holds 0 0 0;holds 1 0 9;", EMPTY);
        due("ask, as hot as can be", hot.fits(0, 0, 2), 1);
        due("next, as hot as can be", hot.next(0, 0, 0, 1, true), 81);
        due("fewer than two", Check.log("people 1;subject 1 1;", EMPTY).fits(0, 0, 2), NONE);
        due("no SUBJECTS", Check.log("people 2;", EMPTY).fits(0, 0, 0), 0);
    }

    // 19
    private static void drawn() {
        QuarrelOvens x = Check.village("people 8;hearth 1 1;");
        int hours = 0;
        long seed = 77;
        for (int n = 0; n <= 60; n++) {
            due("without SUBJECTS", x.drawn(0, 77, n, 0), hours);
            seed = (seed * 1103515245L + 12345L) % (1L << 32);
            hours += (seed >> 16) % 8 == 7 ? 1 : 0;
        }
        due("another n", x.drawn(0, 1, 61, 0), -2);
        due("another n", x.drawn(0, 1, -1, 0), -2);
        due("another what", x.drawn(0, 1, 5, 4), -2);
        due("another what", x.drawn(0, 1, 5, 20), -2);
        due("no VILLAGE", x.drawn(1, 1, 5, 0), -2);
        QuarrelOvens y = Check.village(V);
        due("none drawn", y.drawn(0, 5, 0, 110), 7);
        due("as told", y.village(0, 110), 7);
        due("negative seeds", y.drawn(0, -1, 0, 3), 0);
        drawnByHand();
    }

    private static void drawnByHand() {
        QuarrelOvens x = Check.village("people 2;subject 9 1;hearth 60 99;holds 0 0 0;holds 1 0 9;");
        int x1 = 0;
        int burned = 0;
        int heat = 9;
        int apart = 9;
        boolean busy = false;
        for (int n = 1; n <= 3; n++) {
            x1 = x1 * 1103515245 + 12345;
            int kind = (x1 >>> 16) % 8;
            int more = kind == 7 ? 0 : kind == 6 ? 2 : kind < 4 ? 4 : 3;
            for (int i = 0; i < more; i++) x1 = x1 * 1103515245 + 12345;
            if (kind == 7) busy = false;
            if (kind > 3 && kind < 7) apart = 0;
            if (kind < 4 && !busy && apart > 0) {
                burned += apart * heat--;
                busy = true;
            }
            if (apart == 0) break;
            due("drawn, " + n, x.drawn(0, 0, n, 3), burned);
            due("drawn, HEAT, " + n, x.drawn(0, 0, n, 20), heat);
        }
    }

    // 20
    private static void spent() {
        QuarrelOvens x = Check.village(V);
        due("spent", x.spent(0, 0, 1, 20, NONE), 99);
        due("spent 3", x.spent(0, 0, 1, 3, NONE), 70);
        due("spent 0", x.spent(0, 0, 1, 0, NONE), 0);
        int[] row = {1, 0, 1, 0, 1, 0};
        for (int k = 0; k < 6; k++) due("spent, " + k, x.spent(0, 0, 1, 20, k), row[k]);
        due("not so many", x.spent(0, 0, 1, 20, 6), NONE);
        due("not so many", x.spent(0, 0, 1, 3, 3), NONE);
        due("none", x.spent(0, 1, 2, 9, NONE), 0);
        due("none", x.spent(0, 1, 2, 9, 0), NONE);
        due("another k", x.spent(0, 0, 1, 9, -2), NONE);
        due("another n", x.spent(0, 0, 1, 21, NONE), NONE);
        due("another n", x.spent(0, 0, 1, -1, NONE), NONE);
        due("one", x.spent(0, 1, 1, 5, NONE), NONE);
        due("no PERSON", x.spent(0, 1, 4, 5, NONE), NONE);
    }

    // 21
    private static void kept() {
        QuarrelOvens x = Check.village(V);
        due("kept", x.kept(0, 0, 3, 1, 0), 9);
        due("it would crack", x.kept(0, 0, 1, 0, 0), 0);
        due("not apart", x.kept(0, 1, 2, 0, 0), 0);
        due("nothing held", x.kept(0, 0, 3, 0, 0), NONE);
        due("no HEARTH", x.kept(0, 0, 3, 1, 2), NONE);
        due("no HEARTH", x.kept(0, 0, 3, 1, -1), NONE);
        due("one", x.kept(0, 0, 0, 1, 0), NONE);
        String two = "people 2;holds 0 0 0;holds 1 0 5;hearth 5 25;subject 5 5;";
        due("without cooling", Check.village(two + "cools 0;").kept(0, 0, 1, 0, 0), 99);
        due("with cooling", Check.village(two + "cools 1;").kept(0, 0, 1, 0, 0), 21);
        due("too little", Check.village("people 2;holds 0 0 0;holds 1 0 1;hearth 5 25;subject 4 1;").kept(0, 0, 1, 0, 0), 0);
        // in hour 4 it must be 54 and 45, which is as much as it bears
        due("up to 99", Check.village("people 2;cools 9;subject 9 4;hearth 60 99;holds 0 0 0;holds 1 0 9;").kept(0, 0, 1, 0, 0), 9);
        // the second quarrel cracks it unless it is cold again, which it is at once
        due("cold in between", Check.village("people 2;cools 9;holds 0 0 0;holds 1 0 1;hearth 7 9;subject 9 1;").kept(0, 0, 1, 0, 0), 3);
    }

    // 22
    private static void calm() {
        QuarrelOvens x = Check.village(V);
        int[] wants = {4, 4, 7, 5, 1};
        for (int what = 0; what < 5; what++) due("calm " + what, x.calm(0, 0, what), wants[what]);
        int[] other = {calmed(9, 0, 4), 4, 4, 9, 2};
        for (int what = 0; what < 5; what++) due("calm, 1 " + what, x.calm(0, 1, what), other[what]);
        QuarrelOvens none = Check.village("people 2;subject 1 1;");
        int[] nobody = {0, NONE, NONE, 0, 0};
        for (int what = 0; what < 5; what++) due("calm, nobody " + what, none.calm(0, 0, what), nobody[what]);
        due("another what", x.calm(0, 0, 5), -2);
        due("another what", x.calm(0, 0, -1), -2);
        due("no SUBJECT", x.calm(0, 2, 0), -2);
        due("no SUBJECT", x.calm(0, -1, 0), -2);
        due("the least MIDDLE", Check.village("people 2;subject 1 1;holds 0 0 8;holds 1 0 3;").calm(0, 0, 2), 3);
        due("nothing is changed", x.village(0, 100), 2);
    }

    private static int calmed(int a, int b, int c) {
        int[] held = {a, b, c};
        int times = 0;
        while (held[0] != held[1] || held[0] != held[2]) {
            int i = held[0] != held[1] || held[0] != held[2] ? 0 : 1;
            int j = i == 0 && held[0] != held[1] ? 1 : 2;
            held[i] = held[j] = (held[i] + held[j]) / 2;
            times++;
        }
        return times;
    }

    // 23
    private static void hired() {
        QuarrelOvens x = Check.village(V);
        due("hired", x.hired(0, 0, 1, false), 1);
        due("hired much", x.hired(0, 0, 1, true), 27);
        due("the first one holds nothing", x.hired(0, 3, 2, false), 0);
        due("the first one holds nothing", x.hired(0, 3, 2, true), 25);
        due("hired", x.hired(0, 0, 3, true), 3);
        due("one", x.hired(0, 1, 1, false), NONE);
        due("no PERSON", x.hired(0, 4, 1, false), NONE);
        due("no PERSON", x.hired(0, 1, 4, true), NONE);
        due("none", Check.village("people 2;subject 1 1;holds 0 0 3;").hired(0, 0, 1, true), NONE);
        due("the least", Check.village("people 2;subject 1 1;subject 1 1;holds 1 0 0;holds 1 1 9;").hired(0, 0, 1, false), 0);
    }

    // 24
    private static void filled() {
        QuarrelOvens x = Check.village(V);
        due("filled", x.filled(0, 0, NONE), 15);
        due("filled 0", x.filled(0, 0, 0), 103);
        due("filled 1", x.filled(0, 0, 1), NONE);
        due("filled", x.filled(0, 1, NONE), 27);
        due("filled 0", x.filled(0, 1, 0), 101);
        due("no HEARTH", x.filled(0, 2, NONE), NONE);
        due("no HEARTH", x.filled(0, -1, NONE), NONE);
        due("another k", x.filled(0, 0, -2), NONE);
        QuarrelOvens y = Check.village(PATH + "hearth 1 10;hearth 1 4;");
        due("one ahead of two", y.filled(0, 0, NONE), 6);
        due("one ahead of two, 0", y.filled(0, 0, 0), 112);
        due("two", y.filled(0, 1, NONE), 10);
        due("two, 0", y.filled(0, 1, 0), 1);
        due("two, 1", y.filled(0, 1, 1), 223);
        due("two, 2", y.filled(0, 1, 2), NONE);
        due("none", y.filled(0, 2, NONE), 0);
        due("none, 0", y.filled(0, 2, 0), NONE);
        String same = "people 4;subject 1 1;subject 2 1;hearth 1 8;holds 0 0 0;holds 1 0 4;holds 2 1 0;holds 3 1 2;holds 0 1 0;holds 1 1 4;";
        due("as much by one", Check.village(same).filled(0, 0, NONE), 8);
        due("one ahead of two", Check.village(same).filled(0, 0, 0), 101);
        due("one alone", Check.village(same).filled(0, 0, 1), NONE);
    }

    // 25
    private static void halves() {
        QuarrelOvens x = Check.village(V);
        due("halves", x.halves(0, false), 67);
        due("camp", x.halves(0, true), 1);
        QuarrelOvens y = Check.village(PATH);
        due("halves", y.halves(0, false), 16);
        due("camp", y.halves(0, true), 5);
        due("one", Check.village("people 1;").halves(0, false), 0);
        due("one, camp", Check.village("people 1;").halves(0, true), 1);
        due("the least", Check.village("people 3;").halves(0, true), 1);
        due("no PEOPLE", Check.village(EMPTY).halves(0, false), NONE);
        due("no PEOPLE", Check.village(EMPTY).halves(0, true), NONE);
    }

    // 26
    private static void circle() {
        QuarrelOvens x = Check.village(V);
        due("circle", x.circle(0, NONE), 4);
        int[] row = {1, 3, 0, 2};
        for (int k = 0; k < 4; k++) due("circle " + k, x.circle(0, k), row[k]);
        due("not so many", x.circle(0, 4), NONE);
        due("another k", x.circle(0, -2), NONE);
        due("nobody", Check.village(EMPTY).circle(0, NONE), 0);
        due("nobody, 0", Check.village(EMPTY).circle(0, 0), NONE);
        due("alone", Check.village("people 3;").circle(0, NONE), 1);
        due("alone, 0", Check.village("people 3;").circle(0, 0), 0);
        due("a row, not a ring", Check.village(PATH).circle(0, NONE), 4);
        due("eight", Check.village("people 8;subject 1 1;holds 0 0 0;holds 1 0 1;holds 2 0 2;holds 3 0 3;"
            + "holds 4 0 4;holds 5 0 5;holds 6 0 6;holds 7 0 7;").circle(0, NONE), 8);
    }

    // 27
    private static void kindred() {
        QuarrelOvens x = Check.village(V);
        int[] wants = {4, 1, 1};
        for (int what = 0; what < 3; what++) due("kindred " + what, x.kindred(0, what), wants[what]);
        int[] ranks = {0, 1, 3, 2};
        for (int k = 0; k < 4; k++) due("ranked " + k, x.kindred(0, 10 + k), ranks[k]);
        for (int what : new int[] {-1, 3, 9, 14, Integer.MIN_VALUE, Integer.MAX_VALUE}) due("another what", x.kindred(0, what), -2);
        QuarrelOvens y = Check.village("people 5;subject 1 1;subject 1 1;holds 0 0 1;holds 2 0 1;holds 3 0 1;holds 3 1 1;");
        due("kins", y.kindred(0, 0), 3);
        due("the largest", y.kindred(0, 1), 2);
        due("the least number first", y.kindred(0, 10), 0);
        due("without SUBJECTS", Check.village("people 3;").kindred(0, 0), 1);
        due("nobody", Check.village(EMPTY).kindred(0, 0), 0);
        due("nobody", Check.village(EMPTY).kindred(0, 1), 0);
        String mixed = "people 3;subject 1 1;subject 1 1;holds 0 0 1;holds 1 0 2;holds 2 0 2;holds 1 1 0;holds 2 1 1;";
        due("a trio on two SUBJECTS", Check.village(mixed).kindred(0, 2), 1);
    }

    // 28, 31, 32
    private static void meansAndDistances() {
        QuarrelOvens x = Check.village(V);
        due("mean", x.mean(0, 0, false), 50);
        due("mean under", x.mean(0, 0, true), 3);
        due("mean, least terms", x.mean(0, 1, false), 18);
        due("mean, least terms, under", x.mean(0, 1, true), 1);
        due("no SUBJECT", x.mean(0, 2, false), NONE);
        due("farthest", x.farthest(0, 0, false), 1);
        due("farthest apart", x.farthest(0, 1, true), 9);
        due("no SUBJECT", x.farthest(0, -1, false), NONE);
        QuarrelOvens y = Check.village("people 4;subject 1 1;subject 1 1;holds 1 0 3;holds 3 0 3;holds 2 1 4;");
        due("mean 0", y.mean(0, 0, false), 0);
        due("mean 0 under", y.mean(0, 0, true), 1);
        due("fewer than two", y.mean(0, 1, true), NONE);
        due("farthest, not apart", y.farthest(0, 0, false), 13);
        due("farthest, not apart", y.farthest(0, 0, true), 0);
        due("fewer than two", y.farthest(0, 1, false), NONE);
        due("fewer than two", y.farthest(0, 1, true), NONE);
        due("quiet", x.quiet(0), 0);
        due("all quiet", y.quiet(0), 15);
        due("nobody", Check.village(EMPTY).quiet(0), 0);
        due("some quiet", Check.village("people 3;subject 1 1;holds 0 0 1;holds 2 0 2;").quiet(0), 2);
    }

    // 29
    private static void after() {
        QuarrelOvens x = Check.day(V, "quarrel 0 3 1 0;agree 0 1 0;deny 3 2 0;hour;news 1 5;quarrel 0 1 1 0;");
        int[] wants = {15, 0, NONE, 0};
        for (int what = 0; what < 4; what++) due("after " + what, x.after(0, 0, what), wants[what]);
        due("another what", x.after(0, 0, 4), -2);
        due("another what", x.after(0, 0, -1), -2);
        due("no DAY", x.after(0, 1, 0), -2);
        due("no VILLAGE", x.after(1, 0, 0), -2);
        QuarrelOvens y = Check.day("people 3;subject 2 1;hearth 4 8;cools 1;holds 0 0 0;holds 1 0 3;holds 2 0 9;",
            "hour;quarrel 1 2 0 0;hour;hour;hour;hour;");
        int[] first = {0, 1, 1, 0};
        for (int what = 0; what < 4; what++) due("after, cracked " + what, y.after(0, 0, what), first[what]);
        QuarrelOvens z = Check.day("people 3;subject 2 1;hearth 4 8;cools 1;holds 0 0 0;holds 1 0 3;holds 2 0 9;",
            "quarrel 0 1 0 0;hour;hour;hour;quarrel 2 1 0 0;");
        int[] second = {6, 1, 4, 3};
        for (int what = 0; what < 4; what++) due("after, cosy " + what, z.after(0, 0, what), second[what]);
        QuarrelOvens none = Check.day(EMPTY, "hour;hour;");
        int[] empty = {0, NONE, NONE, 3};
        for (int what = 0; what < 4; what++) due("after, no HEARTHS " + what, none.after(0, 0, what), empty[what]);
    }

    // 30
    private static void next() {
        QuarrelOvens x = Check.log(V, "burned 0 2 15;");
        due("next", x.next(0, 0, 0, 1, false), 5);
        due("next, most", x.next(0, 0, 0, 1, true), 5);
        due("one holds nothing", x.next(0, 0, 0, 3, true), 0);
        due("one", x.next(0, 0, 1, 1, true), NONE);
        due("no PERSON", x.next(0, 0, 1, 4, true), NONE);
        due("no LOG", x.next(0, 1, 0, 1, true), NONE);
        QuarrelOvens y = Check.log(V, EMPTY);
        due("any: least", y.next(0, 0, 0, 1, false), 0);
        due("any: most", y.next(0, 0, 0, 1, true), 27);
        due("nothing fits", Check.log(V, "burned 0 1 99;").next(0, 0, 0, 1, true), NONE);
        due("a PERSON is not there", Check.log(V, "burned 0 7 0;").next(0, 0, 0, 1, true), NONE);
    }

    // 34, 35
    private static void images() {
        QuarrelOvens x = Check.day(V, "hour;");
        Check.tell(x, 2, NONE, "burned 0 1 7;");
        Check.tell(x, 2, NONE, "burned 0 0 7;");
        Check.feed(x, "people 1;");
        CHECK.due("image(-1)", x.image(-1), false);
        CHECK.due("image(3)", x.image(3), false);
        CHECK.due("image(2)", x.image(2), true);
        x.text(0, 0);
        Check.tell(x, 0, NONE, "people 2;");
        Check.tell(x, 1, 0, "");
        Check.tell(x, 2, 0, "");
        CHECK.due("image(0)", x.image(0), true);
        CHECK.due("again(1)", x.again(1), false);
        CHECK.due("again(3)", x.again(3), false);
        due("as it is", x.village(0, 0), 1);
        CHECK.due("again(2)", x.again(2), true);
        due("the fault", x.fault(0), 2);
        due("its place", x.fault(1), 9);
        due("villages", x.count(0), 1);
        due("the village", x.village(0, 111), 0);
        due("the day", x.deed(0, NONE, 0), 1);
        due("the log", x.fact(0, 0, 2), 7);
        due("the tape", x.text(0, NONE), 1);
        due("its text", x.village(1, 0), 1);
        CHECK.due("other images stay", x.again(0), true);
        due("the village", x.village(1, 0), 2);
        due("the log", x.fact(0, NONE, 0), 0);
        CHECK.due("again(2)", x.again(2), true);
        due("an image stays", x.village(0, 111), 0);
        CHECK.due("an image struck", x.image(0), true);
        x.again(0);
        due("an image struck", x.count(0), 1);
    }

    // none such, of every call that asks of a village
    private static void wrongVillages() {
        QuarrelOvens x = Check.day(V, "hour;");
        Check.tell(x, 2, NONE, "");
        for (int v : new int[] {-1, 1, 2, Integer.MAX_VALUE, Integer.MIN_VALUE}) {
            due("village", x.village(v, 0), -2);
            due("apart", x.apart(v, 0, 1, 0, true), NONE);
            due("stop", x.stop(v, 0), NONE);
            due("stop", x.stop(0, v), NONE);
            due("state", x.state(v, 0, 0, 0), -2);
            due("state", x.state(0, v, 0, 0), -2);
            due("keenest", x.keenest(v, 0, 1, true), NONE);
            due("lasts", x.lasts(v, 0, 1, 0, true), NONE);
            due("together", x.together(v, 0, 1), NONE);
            due("plan", x.plan(v, NONE), NONE);
            due("married", x.married(v, NONE), -2);
            due("hopes", x.hopes(v, 0, 1, 0, 5, true), NONE);
            due("fits", x.fits(v, 0, 0), -2);
            due("fits", x.fits(0, v, 0), -2);
            due("drawn", x.drawn(v, 0, 0, 0), -2);
            due("spent", x.spent(v, 0, 1, 5, NONE), NONE);
            due("kept", x.kept(v, 0, 3, 1, 0), NONE);
            due("calm", x.calm(v, 0, 0), -2);
            due("hired", x.hired(v, 0, 1, true), NONE);
            due("filled", x.filled(v, 0, NONE), NONE);
            due("halves", x.halves(v, false), NONE);
            due("circle", x.circle(v, NONE), NONE);
            due("kindred", x.kindred(v, 0), -2);
            due("mean", x.mean(v, 0, false), NONE);
            due("after", x.after(v, 0, 0), -2);
            due("after", x.after(0, v, 0), -2);
            due("next", x.next(v, 0, 0, 1, true), NONE);
            due("next", x.next(0, v, 0, 1, true), NONE);
            due("farthest", x.farthest(v, 0, true), NONE);
            due("quiet", x.quiet(v), NONE);
            due("deed", x.deed(v, NONE, 0), -2);
            due("fact", x.fact(v, NONE, 0), -2);
        }
    }
}
