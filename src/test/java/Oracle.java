import java.math.BigInteger;
import java.util.ArrayList;
import java.util.Arrays;
import java.util.HashMap;
import java.util.HashSet;
import java.util.List;
import java.util.Map;
import java.util.Set;
import java.util.TreeMap;

/** The document once more, written slowly and with the Java library, for tests by chance to compare with. */
final class Oracle {
    static final int NONE = -1;

    // ---- texts ----

    record Token(String sign, int place) { }

    record Line(String word, int place, int[] numbers, int[] places) { }

    static final class Fault extends Exception {
        private static final long serialVersionUID = 1L;
        final int kind;
        final int place;

        Fault(int kind, int place) {
            this.kind = kind;
            this.place = place;
        }
    }

    static final Map<String, int[][]> VILLAGE = Map.of(
        "people", new int[][] {{0, 8}}, "cools", new int[][] {{0, 9}},
        "subject", new int[][] {{1, 9}, {1, 9}}, "hearth", new int[][] {{1, 60}, {1, 99}},
        "holds", new int[][] {{0, 7}, {0, 5}, {0, 9}});
    static final Map<String, int[][]> DAY = Map.of(
        "quarrel", new int[][] {{0, 7}, {0, 7}, {0, 5}, {0, 3}}, "agree", new int[][] {{0, 7}, {0, 7}, {0, 5}},
        "deny", new int[][] {{0, 7}, {0, 7}, {0, 5}}, "news", new int[][] {{0, 5}, {0, 9}}, "hour", new int[][] {});
    static final Map<String, int[][]> LOG = Map.of("burned", new int[][] {{0, 7}, {0, 7}, {0, 99}});

    static List<Token> tokens(String text) {
        List<Token> all = new ArrayList<>();
        int i = 0;
        while (i < text.length()) {
            char c = text.charAt(i);
            int j = i + 1;
            if (c == '\n' || c == ' ') {
                i++;
                continue;
            }
            if (c >= 'a' && c <= 'z') {
                while (j < text.length() && text.charAt(j) >= 'a' && text.charAt(j) <= 'z') j++;
            } else if (c >= '0' && c <= '9') {
                while (j < text.length() && text.charAt(j) >= '0' && text.charAt(j) <= '9') j++;
            }
            all.add(new Token(text.substring(i, j), i));
            i = j;
        }
        all.add(new Token("", text.length()));
        return all;
    }

    static List<Line> lines(int sort, String text) throws Fault {
        Map<String, int[][]> words = sort == 0 ? VILLAGE : sort == 1 ? DAY : LOG;
        List<Token> all = tokens(text);
        List<Line> lines = new ArrayList<>();
        int i = 0;
        while (!all.get(i).sign.isEmpty()) {
            Token word = all.get(i++);
            int[][] form = words.get(word.sign);
            if (form == null) throw new Fault(1, word.place);
            int[] numbers = new int[form.length];
            int[] places = new int[form.length];
            for (int k = 0; k < form.length; k++) {
                Token t = all.get(i++);
                if (!t.sign.matches("[0-9]{1,2}")) throw new Fault(1, t.place);
                numbers[k] = Integer.parseInt(t.sign);
                places[k] = t.place;
            }
            Token t = all.get(i++);
            if (!t.sign.equals(";")) throw new Fault(1, t.place);
            lines.add(new Line(word.sign, word.place, numbers, places));
        }
        return lines;
    }

    static List<Line> checked(int sort, String text) throws Fault {
        Map<String, int[][]> words = sort == 0 ? VILLAGE : sort == 1 ? DAY : LOG;
        List<Line> lines = lines(sort, text);
        TreeMap<Integer, Integer> faults = new TreeMap<>();
        int subjects = 0, hearths = 0, others = 0;
        for (Line l : lines) {
            int[][] form = words.get(l.word);
            for (int k = 0; k < form.length; k++) {
                if (l.numbers[k] < form[k][0] || l.numbers[k] > form[k][1]) faults.put(l.places[k], 2);
            }
            if (l.word.equals("hearth") && l.numbers[1] < l.numbers[0]) faults.put(l.places[1], 2);
            if (List.of("quarrel", "agree", "deny", "burned").contains(l.word) && l.numbers[0] == l.numbers[1]) faults.put(l.places[1], 2);
            if (l.word.equals("subject") && ++subjects > 6) faults.putIfAbsent(l.place, 3);
            if (l.word.equals("hearth") && ++hearths > 4) faults.putIfAbsent(l.place, 3);
            if (sort == 1 && ++others > 40) faults.putIfAbsent(l.place, 3);
            if (sort == 2 && ++others > 8) faults.putIfAbsent(l.place, 3);
        }
        if (!faults.isEmpty()) throw new Fault(faults.firstEntry().getValue(), faults.firstKey());
        if (sort == 0) {
            int people = 0;
            for (Line l : lines) if (l.word.equals("people")) people = l.numbers[0];
            for (Line l : lines) {
                if (l.word.equals("holds") && (l.numbers[0] >= people || l.numbers[1] >= subjects)) throw new Fault(4, text.length());
            }
        }
        return lines;
    }

    // ---- a village ----

    int people, cools = 2;
    final List<int[]> subjects = new ArrayList<>();
    final List<int[]> hearths = new ArrayList<>();
    final Map<Integer, Integer> holds = new HashMap<>();

    static Oracle village(String text) throws Fault {
        Oracle v = new Oracle();
        for (Line l : checked(0, text)) {
            switch (l.word) {
                case "people" -> v.people = l.numbers[0];
                case "cools" -> v.cools = l.numbers[0];
                case "subject" -> v.subjects.add(l.numbers.clone());
                case "hearth" -> v.hearths.add(l.numbers.clone());
                default -> v.holds.put(10 * l.numbers[0] + l.numbers[1], l.numbers[2]);
            }
        }
        return v;
    }

    Oracle copy() {
        Oracle v = new Oracle();
        v.people = people;
        v.cools = cools;
        for (int[] s : subjects) v.subjects.add(s.clone());
        for (int[] h : hearths) v.hearths.add(h.clone());
        v.holds.putAll(holds);
        return v;
    }

    Integer held(int p, int s) {
        return holds.get(10 * p + s);
    }

    boolean person(int p) {
        return p >= 0 && p < people;
    }

    boolean two(int a, int b) {
        return person(a) && person(b) && a != b;
    }

    boolean subject(int s) {
        return s >= 0 && s < subjects.size();
    }

    boolean both(int a, int b, int s) {
        return two(a, b) && subject(s) && held(a, s) != null && held(b, s) != null;
    }

    int apart(int a, int b, int s, boolean burns) {
        if (!both(a, b, s)) return NONE;
        return Math.abs(held(a, s) - held(b, s)) * (burns ? subjects.get(s)[0] : 1);
    }

    int[] keenest(int a, int b) {
        int[] best = {NONE, NONE};
        for (int s = 0; s < subjects.size(); s++) {
            int burns = apart(a, b, s, true);
            if (burns > 0 && burns > best[1]) best = new int[] {s, burns};
        }
        return best;
    }

    List<Integer> burnings(int a, int b, int s) {
        List<Integer> row = new ArrayList<>();
        int heat = subjects.get(s)[0];
        while (heat > 0 && apart(a, b, s, false) > 0) {
            row.add(heat * apart(a, b, s, false));
            heat = Math.max(0, heat - subjects.get(s)[1]);
        }
        return row;
    }

    static int sum(List<Integer> row) {
        return row.stream().mapToInt(Integer::intValue).sum();
    }

    int together(int a, int b) {
        int all = 0;
        for (int s = 0; s < subjects.size(); s++) all += sum(burnings(a, b, s));
        return all;
    }

    // ---- days ----

    int hour, burned;
    int[] warm = new int[4];
    Set<Integer> cracked = new HashSet<>();
    Set<Integer> busy = new HashSet<>();
    int[] quarrels = new int[8];

    boolean act(String word, int... n) {
        switch (word) {
            case "quarrel": {
                if (!both(n[0], n[1], n[2]) || n[3] >= hearths.size() || cracked.contains(n[3])) return false;
                int burns = apart(n[0], n[1], n[2], true);
                if (burns == 0 || busy.contains(n[0]) || busy.contains(n[1])) return false;
                busy.add(n[0]);
                busy.add(n[1]);
                quarrels[n[0]]++;
                quarrels[n[1]]++;
                burned += burns;
                warm[n[3]] += burns;
                if (warm[n[3]] > hearths.get(n[3])[1]) {
                    cracked.add(n[3]);
                    warm[n[3]] = 0;
                }
                int[] s = subjects.get(n[2]);
                s[0] = Math.max(0, s[0] - s[1]);
                return true;
            }
            case "agree": {
                if (!both(n[0], n[1], n[2])) return false;
                int mean = (held(n[0], n[2]) + held(n[1], n[2])) / 2;
                holds.put(10 * n[0] + n[2], mean);
                holds.put(10 * n[1] + n[2], mean);
                return true;
            }
            case "deny": {
                if (!two(n[0], n[1]) || !subject(n[2]) || held(n[1], n[2]) == null) return false;
                holds.put(10 * n[0] + n[2], 9 - held(n[1], n[2]));
                return true;
            }
            case "news": {
                if (!subject(n[0])) return false;
                for (int p = 0; p < people; p++) holds.put(10 * p + n[0], n[1]);
                subjects.get(n[0])[0] = 9;
                return true;
            }
            default: {
                for (int h = 0; h < 4; h++) warm[h] = Math.max(0, warm[h] - cools);
                busy.clear();
                hour++;
                return true;
            }
        }
    }

    static int bits(Set<Integer> set) {
        int all = 0;
        for (int i : set) all |= 1 << i;
        return all;
    }

    int told(int what) {
        if (what >= 100) {
            int p = (what - 100) / 10, s = what % 10;
            if (!person(p) || !subject(s)) return -2;
            return held(p, s) == null ? NONE : held(p, s);
        }
        return -2;
    }

    int state(int what) {
        if (what == 0) return hour;
        if (what == 1) return bits(cracked);
        if (what == 2) return bits(busy);
        if (what == 3) return burned;
        if (what >= 10 && what < 10 + hearths.size()) return warm[what - 10];
        if (what >= 20 && what < 20 + subjects.size()) return subjects.get(what - 20)[0];
        return told(what);
    }

    int village(int what) {
        if (what == 0) return people;
        if (what == 1) return subjects.size();
        if (what == 2) return hearths.size();
        if (what == 3) return cools;
        if (what >= 10 && what < 10 + subjects.size()) return subjects.get(what - 10)[0];
        if (what >= 20 && what < 20 + subjects.size()) return subjects.get(what - 20)[1];
        if (what >= 30 && what < 30 + hearths.size()) return hearths.get(what - 30)[0];
        if (what >= 40 && what < 40 + hearths.size()) return hearths.get(what - 40)[1];
        return told(what);
    }

    /** The states of a day, from the first one to the one at which it stops. */
    List<Oracle> states(List<Line> day) {
        List<Oracle> all = new ArrayList<>();
        Oracle now = copy();
        all.add(now);
        for (Line l : day) {
            Oracle then = all.get(all.size() - 1).copyAll();
            if (!then.act(l.word, l.numbers)) break;
            all.add(then);
        }
        return all;
    }

    Oracle copyAll() {
        Oracle v = copy();
        v.hour = hour;
        v.burned = burned;
        v.warm = warm.clone();
        v.cracked = new HashSet<>(cracked);
        v.busy = new HashSet<>(busy);
        v.quarrels = quarrels.clone();
        return v;
    }

    int after(List<Line> day, int what) {
        List<Oracle> all = states(day);
        Oracle last = all.get(all.size() - 1);
        switch (what) {
            case 0:
                return all.stream().mapToInt(o -> Arrays.stream(o.warm).max().getAsInt()).max().getAsInt();
            case 1: {
                int best = NONE;
                for (int p = people - 1; p >= 0; p--) {
                    if (last.quarrels[p] > 0 && (best == NONE || last.quarrels[p] >= last.quarrels[best])) best = p;
                }
                return best;
            }
            case 2:
                for (int i = 1; i < all.size(); i++) if (!all.get(i).cracked.isEmpty()) return i - 1;
                return NONE;
            case 3: {
                int cosy = 0;
                for (Oracle o : all) {
                    boolean ok = true;
                    for (int h = 0; h < hearths.size(); h++) ok &= o.warm[h] >= hearths.get(h)[0];
                    if (ok) cosy++;
                }
                return cosy;
            }
            default:
                return -2;
        }
    }

    private long x;

    private int draw(int n) {
        x = (x * 1103515245L + 12345L) & 0xffffffffL;
        return (int) ((x >> 16) % n);
    }

    int drawn(int seed, int n, int what) {
        Oracle o = copy();
        o.x = seed & 0xffffffffL;
        for (int i = 0; i < n; i++) {
            int kind = o.draw(8);
            if (kind == 7) {
                o.act("hour");
            } else if (o.subjects.isEmpty()) {
                continue;
            } else if (kind == 6) {
                int s = o.draw(o.subjects.size());
                int what6 = o.draw(10);
                o.act("news", s, what6);
            } else if (o.people < 2 || kind < 4 && o.hearths.isEmpty()) {
                continue;
            } else {
                int a = o.draw(o.people);
                int b = (o.draw(o.people - 1) + 1 + a) % o.people;
                int s = o.draw(o.subjects.size());
                if (kind < 4) {
                    o.act("quarrel", a, b, s, o.draw(o.hearths.size()));
                } else {
                    o.act(kind == 4 ? "agree" : "deny", a, b, s);
                }
            }
        }
        return o.state(what);
    }

    // ---- plans ----

    List<int[]> quarrelsOf() {
        List<int[]> all = new ArrayList<>();
        for (int s = 0; s < subjects.size(); s++)
            for (int a = 0; a < people; a++)
                for (int b = a + 1; b < people; b++)
                    if (apart(a, b, s, true) > 0) all.add(new int[] {s, a, b, apart(a, b, s, true)});
        return all;
    }

    static int number(int[] q) {
        return 100 * q[0] + 10 * q[1] + q[2];
    }

    static boolean meet(int[] q, int[] r) {
        return q[0] == r[0] || q[1] == r[1] || q[1] == r[2] || q[2] == r[1] || q[2] == r[2];
    }

    private int[] bestRow;

    /** How much, and the row behind it; null if there is none. */
    int[] plan() {
        bestRow = null;
        planFrom(quarrelsOf(), new ArrayList<>());
        return bestRow;
    }

    private void planFrom(List<int[]> all, List<int[]> row) {
        if (row.size() == hearths.size()) {
            int[] got = new int[row.size() + 1];
            for (int i = 0; i < row.size(); i++) {
                got[0] += row.get(i)[3];
                got[i + 1] = number(row.get(i));
            }
            if (bestRow == null || Arrays.compare(got, bestRow) < 0) bestRow = got;
            return;
        }
        int[] hearth = hearths.get(row.size());
        for (int[] q : all) {
            boolean free = q[3] >= hearth[0] && q[3] <= hearth[1];
            for (int[] r : row) free &= !meet(q, r);
            if (free) {
                row.add(q);
                planFrom(all, row);
                row.remove(row.size() - 1);
            }
        }
    }

    /** How much, and the one or two quarrels. */
    int[] filled(int hearth) {
        int most = hearths.get(hearth)[1];
        List<int[]> all = quarrelsOf();
        List<int[]> rows = new ArrayList<>();
        for (int[] q : all) {
            rows.add(new int[] {q[3], number(q)});
            for (int[] r : all) if (!meet(q, r) && number(q) < number(r)) rows.add(new int[] {q[3] + r[3], number(q), number(r)});
        }
        int[] best = {0};
        for (int[] row : rows) {
            if (row[0] > most || row[0] < best[0]) continue;
            boolean first = row[0] > best[0] || row.length < best.length
                || row.length == best.length && Arrays.compare(row, best) < 0;
            if (first) best = row;
        }
        return best;
    }

    int[] married() {
        int[] spouse = new int[people];
        Arrays.fill(spouse, NONE);
        while (true) {
            int[] best = null;
            for (int a = 0; a < people; a++)
                for (int b = a + 1; b < people; b++)
                    if (spouse[a] == NONE && spouse[b] == NONE && together(a, b) > 0
                        && (best == null || together(a, b) > together(best[0], best[1]))) best = new int[] {a, b};
            if (best == null) return spouse;
            spouse[best[0]] = best[1];
            spouse[best[1]] = best[0];
        }
    }

    int most() {
        int[] most = new int[1 << people];
        for (int set = 0; set < 1 << people; set++)
            for (int a = 0; a < people; a++)
                for (int b = a + 1; b < people; b++) {
                    int pair = 1 << a | 1 << b;
                    if ((set & pair) == pair) most[set] = Math.max(most[set], most[set & ~pair] + together(a, b));
                }
        return most[(1 << people) - 1];
    }

    BigInteger[] hopes(int a, int b, int s, int p) {
        List<Integer> row = burnings(a, b, s);
        BigInteger below = BigInteger.TEN.pow(row.size());
        BigInteger above = BigInteger.ZERO;
        for (int i = 0; i < row.size(); i++) {
            above = above.add(BigInteger.valueOf(row.get(i)).multiply(BigInteger.valueOf(10 - p).pow(i))
                .multiply(BigInteger.TEN.pow(row.size() - i)));
        }
        BigInteger gcd = above.gcd(below);
        return new BigInteger[] {above.divide(gcd), below.divide(gcd)};
    }

    // ---- logs ----

    boolean allThere(List<Line> log) {
        return log.stream().allMatch(l -> person(l.numbers[0]) && person(l.numbers[1]));
    }

    /** What the log's facts, and two more at its end, would burn. */
    List<Integer> wouldBurn(List<Line> log, int s, int ahead, int a, int b) {
        int heat = subjects.get(s)[0];
        for (int i = 0; i < ahead; i++) heat = Math.max(0, heat - subjects.get(s)[1]);
        List<Integer> row = new ArrayList<>();
        for (Line l : log) {
            row.add(heat * Math.max(0, apart(l.numbers[0], l.numbers[1], s, false)));
            heat = Math.max(0, heat - subjects.get(s)[1]);
        }
        row.add(heat * Math.max(0, apart(a, b, s, false)));
        return row;
    }

    List<Integer> fits(List<Line> log) {
        List<Integer> all = new ArrayList<>();
        for (int s = 0; s < subjects.size(); s++)
            for (int k = 0; k < 10; k++) {
                List<Integer> row = wouldBurn(log, s, k, 0, 0);
                boolean ok = true;
                for (int i = 0; i < log.size(); i++) ok &= row.get(i) == log.get(i).numbers[2];
                if (ok) all.add(10 * s + k);
            }
        return all;
    }

    int nextBurn(List<Line> log, int fit, int a, int b) {
        return wouldBurn(log, fit / 10, fit % 10, a, b).get(log.size());
    }

    int fits(List<Line> log, int what) {
        if (!allThere(log)) return -2;
        List<Integer> all = fits(log);
        if (what == 0) return all.size();
        if (what == 1) {
            Set<Integer> on = new HashSet<>();
            for (int f : all) on.add(f / 10);
            return on.size() == 1 ? on.iterator().next() : NONE;
        }
        if (what == 2) {
            if (all.isEmpty()) return NONE;
            int best = NONE, least = 1000;
            for (int a = 0; a < people; a++)
                for (int b = a + 1; b < people; b++) {
                    Map<Integer, Integer> by = new HashMap<>();
                    for (int f : all) by.merge(nextBurn(log, f, a, b), 1, Integer::sum);
                    int greatest = by.values().stream().max(Integer::compare).get();
                    if (greatest < least) {
                        least = greatest;
                        best = 10 * a + b;
                    }
                }
            return best;
        }
        return what >= 10 && what - 10 < all.size() ? all.get(what - 10) : -2;
    }

    int next(List<Line> log, int a, int b, boolean most) {
        if (!allThere(log) || !two(a, b) || fits(log).isEmpty()) return NONE;
        var all = fits(log).stream().mapToInt(f -> nextBurn(log, f, a, b));
        return most ? all.max().getAsInt() : all.min().getAsInt();
    }

    // ---- the rest ----

    List<int[]> spent(int a, int b, int n) {
        List<int[]> row = new ArrayList<>();
        Oracle o = copy();
        while (row.size() < n && o.keenest(a, b)[0] != NONE) {
            int[] k = o.keenest(a, b);
            row.add(k);
            o.subjects.get(k[0])[0] = Math.max(0, o.subjects.get(k[0])[0] - o.subjects.get(k[0])[1]);
        }
        return row;
    }

    int kept(int a, int b, int s, int hearth) {
        List<Integer> row = burnings(a, b, s);
        int[] h = hearths.get(hearth);
        Set<List<Integer>> at = Set.of(List.of(0, 0));
        for (int hour = 0; hour < 99; hour++) {
            Set<List<Integer>> then = new HashSet<>();
            for (List<Integer> one : at) {
                int gone = one.get(0), warm = one.get(1);
                if (warm >= h[0]) then.add(List.of(gone, Math.max(0, warm - cools)));
                if (gone < row.size()) {
                    int more = warm + row.get(gone);
                    if (more >= h[0] && more <= h[1]) then.add(List.of(gone + 1, Math.max(0, more - cools)));
                }
            }
            if (then.isEmpty()) return hour;
            at = then;
        }
        return 99;
    }

    List<Integer> heldOf(int s) {
        List<Integer> all = new ArrayList<>();
        for (int p = 0; p < people; p++) if (held(p, s) != null) all.add(held(p, s));
        return all;
    }

    int calm(int s, int what) {
        if (!subject(s)) return -2;
        List<Integer> all = heldOf(s);
        if (what == 0 || what == 1) {
            int times = 0;
            boolean more = true;
            while (more) {
                more = false;
                for (int i = 0; i < all.size() && !more; i++)
                    for (int j = i + 1; j < all.size() && !more; j++)
                        if (!all.get(i).equals(all.get(j))) {
                            int mean = (all.get(i) + all.get(j)) / 2;
                            all.set(i, mean);
                            all.set(j, mean);
                            times++;
                            more = true;
                        }
            }
            return what == 0 ? times : all.isEmpty() ? NONE : all.get(0);
        }
        if (what == 2 || what == 3) {
            int best = NONE, least = 1000;
            for (int m = 9; m >= 0; m--) {
                int sum = 0;
                for (int h : all) sum += Math.abs(h - m);
                if (sum <= least) {
                    least = sum;
                    best = m;
                }
            }
            return what == 3 ? least : all.isEmpty() ? NONE : best;
        }
        if (what == 4) {
            int fewest = 8;
            for (int set = 0; set < 1 << people; set++) {
                boolean ok = true;
                for (int a = 0; a < people; a++)
                    for (int b = a + 1; b < people; b++)
                        if ((set >> a & 1) == 0 && (set >> b & 1) == 0 && apart(a, b, s, false) > 0) ok = false;
                if (ok) fewest = Math.min(fewest, Integer.bitCount(set));
            }
            return fewest;
        }
        return -2;
    }

    int[] hired(int a, int b) {
        int[] best = {NONE, NONE};
        if (!two(a, b)) return best;
        for (int s = 0; s < subjects.size(); s++) {
            Oracle o = copy();
            if (!o.act("deny", a, b, s)) continue;
            int burns = o.apart(a, b, s, true);
            if (burns > 0 && burns > best[1]) best = new int[] {s, burns};
        }
        return best;
    }

    int[] halves() {
        int[] best = null;
        for (int camp = 0; camp < 1 << people; camp++) {
            if ((camp & 1) == 0) continue;
            int sum = 0;
            for (int a = 0; a < people; a++)
                for (int b = 0; b < people; b++)
                    if ((camp >> a & 1) == 1 && (camp >> b & 1) == 0) sum += Math.max(0, keenest(a, b)[1]);
            if (best == null || sum > best[0]) best = new int[] {sum, camp};
        }
        return best;
    }

    boolean atOdds(int a, int b) {
        for (int s = 0; s < subjects.size(); s++) if (apart(a, b, s, false) > 0) return true;
        return false;
    }

    List<Integer> circle() {
        List<List<Integer>> rows = new ArrayList<>();
        rows.add(List.of());
        while (true) {
            List<List<Integer>> longer = new ArrayList<>();
            for (List<Integer> row : rows)
                for (int p = 0; p < people; p++)
                    if (!row.contains(p) && (row.isEmpty() || atOdds(row.get(row.size() - 1), p))) {
                        List<Integer> more = new ArrayList<>(row);
                        more.add(p);
                        longer.add(more);
                    }
            if (longer.isEmpty()) return rows.get(0);
            rows = longer;
        }
    }

    int kindred(int what) {
        Map<String, Integer> kins = new HashMap<>();
        for (int p = 0; p < people; p++) {
            StringBuilder all = new StringBuilder();
            for (int s = 0; s < subjects.size(); s++) all.append(held(p, s)).append(' ');
            kins.merge(all.toString(), 1, Integer::sum);
        }
        if (what == 0) return kins.size();
        if (what == 1) return kins.values().stream().max(Integer::compare).orElse(0);
        if (what == 2) {
            int trios = 0;
            for (int a = 0; a < people; a++)
                for (int b = a + 1; b < people; b++)
                    for (int c = b + 1; c < people; c++)
                        if (atOdds(a, b) && atOdds(a, c) && atOdds(b, c)) trios++;
            return trios;
        }
        if (what >= 10 && what - 10 < people) {
            int[] sums = new int[people];
            List<Integer> order = new ArrayList<>();
            for (int a = 0; a < people; a++) {
                order.add(a);
                for (int b = 0; b < people; b++) if (a != b) sums[a] += together(a, b);
            }
            order.sort((p, q) -> sums[q] - sums[p]);
            return order.get(what - 10);
        }
        return -2;
    }

    BigInteger[] mean(int s) {
        int sum = 0, couples = 0;
        for (int a = 0; a < people; a++)
            for (int b = a + 1; b < people; b++)
                if (both(a, b, s)) {
                    sum += apart(a, b, s, true);
                    couples++;
                }
        if (couples == 0) return new BigInteger[] {BigInteger.ONE.negate(), BigInteger.ONE.negate()};
        BigInteger gcd = BigInteger.valueOf(sum).gcd(BigInteger.valueOf(couples));
        return new BigInteger[] {BigInteger.valueOf(sum).divide(gcd), BigInteger.valueOf(couples).divide(gcd)};
    }

    int[] farthest(int s) {
        int[] best = {NONE, NONE};
        for (int a = 0; a < people; a++)
            for (int b = a + 1; b < people; b++)
                if (both(a, b, s) && apart(a, b, s, false) > best[1]) best = new int[] {10 * a + b, apart(a, b, s, false)};
        return best;
    }

    int quiet() {
        int all = 0;
        for (int a = 0; a < people; a++) {
            boolean calm = true;
            for (int b = 0; b < people; b++) calm &= !atOdds(a, b);
            if (calm) all |= 1 << a;
        }
        return all;
    }
}
