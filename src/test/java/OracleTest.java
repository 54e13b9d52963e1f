import java.math.BigInteger;
import java.util.ArrayList;
import java.util.List;
import java.util.Random;

/** Texts by chance (with fixed seeds): every answer is compared with the slow oracle's. */
final class OracleTest {
    private static final Check CHECK = new Check("OracleTest");
    private static final Random R = new Random(20261118);

    public static void main(String[] args) {
        for (int i = 0; i < 20000 && CHECK.wrong() < 20; i++) texts();
        for (int i = 0; i < 500 && CHECK.wrong() < 20; i++) villages(i);
        CHECK.end();
    }

    private static int below(int n) {
        return R.nextInt(n);
    }

    private static int from(int low, int high) {
        return low + R.nextInt(high - low + 1);
    }

    // ---- texts with faults ----

    private static String number(int most) {
        switch (below(30)) {
            case 0:
                return "" + from(0, 99);
            case 1:
                return "0" + below(10);
            case 2:
                return below(4) == 0 ? "" + from(100, 1200) : "" + (most + 1);
            case 3:
                return "0";
            default:
                return "" + below(most + 1);
        }
    }

    private static String line(int sort) {
        int[] tops;
        String word;
        if (sort == 0) {
            int k = below(5);
            word = new String[] {"people", "cools", "subject", "hearth", "holds"}[k];
            tops = new int[][] {{8}, {9}, {9, 9}, {60, 99}, {7, 5, 9}}[k];
            if (k == 0 && below(2) == 0) return "people 8;";
        } else if (sort == 1) {
            int k = below(5);
            word = new String[] {"quarrel", "agree", "deny", "news", "hour"}[k];
            tops = new int[][] {{7, 7, 5, 3}, {7, 7, 5}, {7, 7, 5}, {5, 9}, {}}[k];
        } else {
            word = "burned";
            tops = new int[] {7, 7, 99};
        }
        StringBuilder b = new StringBuilder(word);
        for (int top : tops) b.append(below(40) == 0 ? "\n  " : " ").append(number(top));
        return b.append(below(30) == 0 ? " ; " : ";").toString();
    }

    private static String mutated(String text) {
        if (text.isEmpty()) return text;
        int at = below(text.length());
        switch (below(4)) {
            case 0:
                return text.substring(0, at);
            case 1:
                return text.substring(0, at) + text.substring(at + 1);
            case 2:
                return text.substring(0, at) + (char) below(256) + text.substring(at);
            default:
                return text.substring(0, at) + "; 019az\n".charAt(below(8)) + text.substring(at + 1);
        }
    }

    private static void texts() {
        int sort = below(3);
        StringBuilder b = new StringBuilder();
        int lines = below(4) == 0 ? below(60) : below(10);
        boolean hours = sort == 1 && below(3) == 0;
        for (int i = 0; i < lines && b.length() < 560; i++) b.append(hours && below(12) != 0 ? "hour;" : line(sort));
        String text = b.toString();
        if (below(4) == 0) text = mutated(text);
        if (text.length() > 600) text = text.substring(0, 600);
        int fault = 0;
        int place = -1;
        try {
            Oracle.checked(sort, text);
        } catch (Oracle.Fault f) {
            fault = f.kind;
            place = f.place;
        }
        QuarrelOvens x = new QuarrelOvens();
        int got = Check.tell(x, sort, -1, text);
        String call = "text " + sort + " of '" + text + "'";
        CHECK.due(call, got, fault == 0 ? 0 : -1);
        CHECK.due(call + " fault(0)", x.fault(0), fault);
        CHECK.due(call + " fault(1)", x.fault(1), place);
        CHECK.due(call + " count", x.count(sort), fault == 0 ? 1 : 0);
        CHECK.due(call + " tape", x.end(1), -1);
    }

    // ---- villages ----

    static String village(int people, int subjects, int hearths) {
        StringBuilder b = new StringBuilder("people " + people + ";");
        if (below(2) == 0) b.append("cools " + below(10) + ";");
        int hot = from(1, 9);
        for (int s = 0; s < subjects; s++) b.append("subject " + from(1, hot) + " " + from(1, below(2) == 0 ? 2 : 9) + ";");
        int cold = from(1, 60);
        for (int h = 0; h < hearths; h++) {
            int wants = from(1, cold);
            b.append("hearth " + wants + " " + from(wants, 99) + ";");
        }
        int spread = from(1, 9);
        int rare = from(1, 10);
        for (int p = 0; p < people; p++)
            for (int s = 0; s < subjects; s++)
                if (below(10) < rare && b.length() < 580) b.append("holds " + p + " " + s + " " + (9 - below(spread + 1)) + ";");
        return b.toString();
    }

    static String day(int people, int subjects, int hearths) {
        StringBuilder b = new StringBuilder();
        int deeds = below(41);
        int p = Math.max(2, people);
        int s = Math.max(1, subjects);
        int h = Math.max(1, hearths);
        for (int i = 0; i < deeds && b.length() < 580; i++) {
            int a = below(p);
            int c = (a + 1 + below(p - 1)) % p;
            int kind = below(10);
            if (kind < 4) b.append("quarrel " + a + " " + c + " " + below(s) + " " + below(h) + ";");
            else if (kind == 4) b.append("agree " + a + " " + c + " " + below(s) + ";");
            else if (kind == 5) b.append("deny " + a + " " + c + " " + below(s) + ";");
            else if (kind == 6) b.append("news " + below(s) + " " + below(10) + ";");
            else b.append("hour;");
        }
        return b.toString();
    }

    static String log(Oracle v) {
        StringBuilder b = new StringBuilder();
        int facts = below(below(3) == 0 ? 9 : 3);
        int p = Math.max(2, v.people);
        if (v.subjects.isEmpty() || v.people < 2 || below(6) == 0) {
            for (int i = 0; i < facts; i++) {
                int a = below(p);
                b.append("burned " + a + " " + (a + 1) % Math.max(2, p) + " " + below(30) + ";");
            }
            return b.toString();
        }
        int s = below(v.subjects.size());
        int heat = v.subjects.get(s)[0] - below(4) * v.subjects.get(s)[1];
        for (int i = 0; i < facts; i++) {
            int a = below(p);
            int c = (a + 1 + below(p - 1)) % p;
            b.append("burned " + a + " " + c + " " + Math.max(0, heat) * Math.max(0, v.apart(a, c, s, false)) + ";");
            heat -= v.subjects.get(s)[1];
        }
        return b.toString();
    }

    private static void villages(int round) {
        int people = below(3) == 0 ? 8 : below(9);
        int subjects = below(3) == 0 ? 6 : below(7);
        int hearths = below(4) == 0 && round % 10 != 0 ? below(3) : below(5);
        String text = village(people, subjects, hearths);
        try {
            Oracle v = Oracle.village(text);
            String day = day(people, subjects, hearths);
            String log = log(v);
            QuarrelOvens x = Check.village("people 1;");
            Check.tell(x, 0, -1, text);
            Check.tell(x, 1, -1, "hour;");
            Check.tell(x, 1, -1, day);
            Check.tell(x, 2, -1, "");
            Check.tell(x, 2, -1, log);
            String told = text + " / " + day + " / " + log + ": ";
            wholes(x, v, told);
            couples(x, v, told);
            subjects(x, v, told);
            days(x, v, Oracle.checked(1, day), told);
            logs(x, v, Oracle.checked(2, log), told);
        } catch (Oracle.Fault f) {
            throw new IllegalStateException(text + " fault " + f.kind + " at " + f.place, f);
        }
    }

    private static void wholes(QuarrelOvens x, Oracle v, String told) {
        for (int what = -2; what < 200; what++) CHECK.due(told + "village " + what, x.village(1, what), v.village(what));
        int[] plan = v.plan();
        for (int k = -2; k < 5; k++) {
            int due = plan == null || k < -1 || k >= v.hearths.size() ? -1 : plan[k + 1];
            CHECK.due(told + "plan " + k, x.plan(1, k), due);
        }
        int[] spouse = v.married();
        CHECK.due(told + "married -1", x.married(1, -1), v.most());
        for (int p = -3; p < 10; p++) if (p != -1) CHECK.due(told + "married " + p, x.married(1, p), v.person(p) ? spouse[p] : -2);
        for (int h = -1; h < 5; h++) {
            int[] filled = h >= 0 && h < v.hearths.size() ? v.filled(h) : new int[] {-1};
            for (int k = -2; k < 3; k++) CHECK.due(told + "filled " + h + " " + k, x.filled(1, h, k), k >= -1 && k + 1 < filled.length ? filled[k + 1] : -1);
        }
        int[] halves = v.people == 0 ? new int[] {-1, -1} : v.halves();
        CHECK.due(told + "halves", x.halves(1, false), halves[0]);
        CHECK.due(told + "halves camp", x.halves(1, true), halves[1]);
        List<Integer> circle = v.circle();
        CHECK.due(told + "circle", x.circle(1, -1), circle.size());
        for (int k = 0; k < 9; k++) CHECK.due(told + "circle " + k, x.circle(1, k), k < circle.size() ? circle.get(k) : -1);
        for (int what = -3; what < 20; what++) CHECK.due(told + "kindred " + what, x.kindred(1, what), v.kindred(what));
        CHECK.due(told + "quiet", x.quiet(1), v.quiet());
        for (int i = 0; i < 10; i++) {
            int seed = R.nextInt();
            int n = below(61);
            for (int what = 0; what < 176; what += what < 4 ? 1 : 1 + below(4)) CHECK.due(told + "drawn " + seed + " " + n + " " + what, x.drawn(1, seed, n, what), v.drawn(seed, n, what));
        }
    }

    private static void couples(QuarrelOvens x, Oracle v, String told) {
        for (int a = -1; a < 9; a++) for (int b = -1; b < 9; b++) {
            String two = told + a + " " + b + " ";
            CHECK.due(two + "keenest", x.keenest(1, a, b, false), v.keenest(a, b)[0]);
            CHECK.due(two + "keenest much", x.keenest(1, a, b, true), v.keenest(a, b)[1]);
            CHECK.due(two + "together", x.together(1, a, b), v.two(a, b) ? v.together(a, b) : -1);
            CHECK.due(two + "hired", x.hired(1, a, b, false), v.hired(a, b)[0]);
            CHECK.due(two + "hired much", x.hired(1, a, b, true), v.hired(a, b)[1]);
            int n = from(0, 20);
            List<int[]> spent = v.two(a, b) ? v.spent(a, b, n) : new ArrayList<>();
            int sum = 0;
            for (int[] one : spent) sum += one[1];
            CHECK.due(two + "spent " + n, x.spent(1, a, b, n, -1), v.two(a, b) ? sum : -1);
            for (int k = 0; k < 21; k += 3) CHECK.due(two + "spent " + n + " " + k, x.spent(1, a, b, n, k), k < spent.size() ? spent.get(k)[0] : -1);
            for (int s = -1; s < 7; s++) onSubject(x, v, two + s + " ", a, b, s);
        }
    }

    private static void onSubject(QuarrelOvens x, Oracle v, String call, int a, int b, int s) {
        boolean both = v.both(a, b, s);
        CHECK.due(call + "apart", x.apart(1, a, b, s, false), v.apart(a, b, s, false));
        CHECK.due(call + "burns", x.apart(1, a, b, s, true), v.apart(a, b, s, true));
        CHECK.due(call + "lasts", x.lasts(1, a, b, s, false), both ? v.burnings(a, b, s).size() : -1);
        CHECK.due(call + "lasts much", x.lasts(1, a, b, s, true), both ? Oracle.sum(v.burnings(a, b, s)) : -1);
        int p = below(11);
        BigInteger none = BigInteger.valueOf(-1);
        BigInteger[] hopes = both ? v.hopes(a, b, s, p) : new BigInteger[] {none, none};
        CHECK.due(call + "hopes " + p, x.hopes(1, a, b, s, p, false), hopes[0].longValueExact());
        CHECK.due(call + "hopes under " + p, x.hopes(1, a, b, s, p, true), hopes[1].longValueExact());
        for (int h = 0; h < 5; h++) {
            boolean there = h < v.hearths.size();
            CHECK.due(call + "kept " + h, x.kept(1, a, b, s, h), both && there ? v.kept(a, b, s, h) : -1);
        }
    }

    private static void subjects(QuarrelOvens x, Oracle v, String told) {
        for (int s = -1; s < 7; s++) {
            for (int what = -1; what < 6; what++) CHECK.due(told + "calm " + s + " " + what, x.calm(1, s, what), v.calm(s, what));
            BigInteger[] mean = v.mean(s);
            CHECK.due(told + "mean " + s, x.mean(1, s, false), mean[0].longValueExact());
            CHECK.due(told + "mean under " + s, x.mean(1, s, true), mean[1].longValueExact());
            CHECK.due(told + "farthest " + s, x.farthest(1, s, false), v.farthest(s)[0]);
            CHECK.due(told + "farthest apart " + s, x.farthest(1, s, true), v.farthest(s)[1]);
        }
    }

    private static void days(QuarrelOvens x, Oracle v, List<Oracle.Line> day, String told) {
        List<Oracle> states = v.states(day);
        CHECK.due(told + "stop", x.stop(1, 1), states.size() - 1);
        for (int n = -1; n < 42; n++) {
            boolean there = n >= 0 && n < states.size();
            for (int what = -1; what < 190; what++) {
                CHECK.due(told + "state " + n + " " + what, x.state(1, 1, n, what), there ? states.get(n).state(what) : -2);
            }
        }
        for (int what = -1; what < 5; what++) CHECK.due(told + "after " + what, x.after(1, 1, what), v.after(day, what));
        List<String> words = List.of("quarrel", "agree", "deny", "news", "hour");
        CHECK.due(told + "deeds", x.deed(1, -1, 0), day.size());
        for (int k = 0; k < 41; k++) {
            for (int what = -1; what < 6; what++) {
                int due = -2;
                if (k < day.size() && what == 0) due = words.indexOf(day.get(k).word());
                if (k < day.size() && what > 0 && what < 5) due = what <= day.get(k).numbers().length ? day.get(k).numbers()[what - 1] : -1;
                CHECK.due(told + "deed " + k + " " + what, x.deed(1, k, what), due);
            }
        }
    }

    private static void logs(QuarrelOvens x, Oracle v, List<Oracle.Line> log, String told) {
        List<Oracle.Line> empty = List.of();
        for (int what = -1; what < 72; what++) {
            CHECK.due(told + "fits " + what, x.fits(1, 1, what), what < 0 || what > 2 && what < 10 ? -2 : v.fits(log, what));
            CHECK.due(told + "fits empty " + what, x.fits(1, 0, what), what < 0 || what > 2 && what < 10 ? -2 : v.fits(empty, what));
        }
        for (int a = -1; a < 9; a++) for (int b = -1; b < 9; b++) {
            CHECK.due(told + "next " + a + " " + b, x.next(1, 1, a, b, false), v.next(log, a, b, false));
            CHECK.due(told + "next most " + a + " " + b, x.next(1, 1, a, b, true), v.next(log, a, b, true));
        }
        CHECK.due(told + "facts", x.fact(1, -1, 0), log.size());
        for (int k = 0; k < 9; k++) for (int what = -1; what < 4; what++) {
            boolean there = k < log.size() && what >= 0 && what < 3;
            CHECK.due(told + "fact " + k + " " + what, x.fact(1, k, what), there ? log.get(k).numbers()[what] : -2);
        }
    }
}
