import java.util.Arrays;

/** Ovens that are lit by quarrels: villages, days and logs told as texts, and what is asked of them. */
public final class QuarrelOvens {
    public static final int NONE = -1;

    private static final int ABSENT = -2;

    private static final int VILLAGES = 0;
    private static final int DAYS = 1;
    private static final int LOGS = 2;
    private static final int SORTS = 3;
    private static final int MOST_OF_A_SORT = 2;
    private static final int IMAGES = 3;

    private static final int MOST_BYTES = 600;
    private static final int BYTES_OF_A_FEED = 20;

    private static final int MOST_PEOPLE = 8;
    private static final int MOST_SUBJECTS = 6;
    private static final int MOST_HEARTHS = 4;
    private static final int MOST_DEEDS = 40;
    private static final int MOST_FACTS = 8;
    private static final int DEED_WIDTH = 5;
    private static final int FACT_WIDTH = 3;

    private static final int HIGHEST_HELD = 9;
    private static final int HIGHEST_HEAT = 9;
    private static final int HIGHEST_WARM = 99;
    private static final int MOST_HOURS = 99;
    private static final int COOLS_AT_FIRST = 2;
    private static final int MOST_DRAWN = 60;
    private static final int MOST_SPENT = 20;
    private static final int MOST_AHEAD = 9;

    private static final int QUARREL = 0;
    private static final int AGREE = 1;
    private static final int DENY = 2;
    private static final int NEWS = 3;
    private static final int HOUR = 4;

    private final Told told;
    private final Told[] images;
    private final Reader reader;
    private final Scene scene;
    private final Couples couples;
    private final Quarrels quarrels;
    private final Keeper keeper;
    private final Chain chain;
    private final Guess guess;

    public QuarrelOvens() {
        told = new Told();
        images = new Told[IMAGES];
        reader = new Reader();
        scene = new Scene();
        couples = new Couples();
        quarrels = new Quarrels();
        keeper = new Keeper();
        chain = new Chain();
        guess = new Guess();
    }

    public int feed(int a, int b, int c, int d, int e) {
        if (told.size + BYTES_OF_A_FEED > MOST_BYTES) {
            return NONE;
        }
        told.addBytes(a);
        told.addBytes(b);
        told.addBytes(c);
        told.addBytes(d);
        told.addBytes(e);
        return told.size;
    }

    public int end(int n) {
        if (n < 0 || n > told.size) {
            return NONE;
        }
        told.size = n;
        return n;
    }

    public int text(int sort, int at) {
        int length = told.size;
        // the tape is taken even where no text may be read from it
        told.size = 0;
        told.fault = 0;
        told.faultPlace = NONE;
        int place = told.placeFor(sort, at);
        if (place == NONE) {
            return ABSENT;
        }
        reader.readText(sort, told.tape, length);
        if (reader.fault != 0) {
            told.fault = reader.fault;
            told.faultPlace = reader.faultPlace;
            return NONE;
        }
        told.put(sort, place, reader);
        return place;
    }

    public int fault(int what) {
        if (what == 0) {
            return told.fault;
        }
        return what == 1 ? told.faultPlace : NONE;
    }

    public int village(int village, int what) {
        Village v = told.villageAt(village);
        return v == null ? ABSENT : v.answer(what);
    }

    public int apart(int village, int a, int b, int subject, boolean burns) {
        Village v = told.villageAt(village);
        if (v == null) {
            return NONE;
        }
        int gap = v.gap(a, b, subject);
        return gap == NONE || !burns ? gap : v.burning(a, b, subject);
    }

    public int deed(int day, int k, int what) {
        Rows rows = told.dayAt(day);
        return rows == null ? ABSENT : rows.answer(k, what);
    }

    public int stop(int village, int day) {
        Village v = told.villageAt(village);
        Rows rows = told.dayAt(day);
        return v == null || rows == null ? NONE : scene.play(v, rows, MOST_DEEDS);
    }

    public int state(int village, int day, int n, int what) {
        Village v = told.villageAt(village);
        Rows rows = told.dayAt(day);
        if (v == null || rows == null || n < 0 || n > rows.count) {
            return ABSENT;
        }
        return scene.play(v, rows, n) == n ? scene.answer(what) : ABSENT;
    }

    public int keenest(int village, int a, int b, boolean much) {
        Village v = told.villageAt(village);
        if (v == null) {
            return NONE;
        }
        int subject = v.hottestBetween(a, b);
        return subject == NONE || !much ? subject : v.burning(a, b, subject);
    }

    public int lasts(int village, int a, int b, int subject, boolean much) {
        Village v = told.villageAt(village);
        if (v == null || v.gap(a, b, subject) == NONE) {
            return NONE;
        }
        return much ? v.burningInAll(a, b, subject) : v.quarrelsInAll(a, b, subject);
    }

    public int together(int village, int a, int b) {
        Village v = told.villageAt(village);
        return v == null || !v.hasCouple(a, b) ? NONE : v.burningOnAll(a, b);
    }

    public int plan(int village, int k) {
        Village v = told.villageAt(village);
        if (v == null || k != NONE && !v.hasHearth(k) || !quarrels.arrange(v)) {
            return NONE;
        }
        return k == NONE ? quarrels.bestHeat : quarrels.best[k];
    }

    public int married(int village, int person) {
        Village v = told.villageAt(village);
        if (v == null || person != NONE && !v.hasPerson(person)) {
            return ABSENT;
        }
        couples.gatherTogether(v);
        if (person == NONE) {
            return couples.mostInAll();
        }
        couples.marry();
        return couples.spouse[person];
    }

    public long hopes(int village, int a, int b, int subject, int p, boolean under) {
        Village v = told.villageAt(village);
        if (v == null || p < 0 || p > 10 || v.gap(a, b, subject) == NONE) {
            return NONE;
        }
        long above = 0;
        long below = 1;
        // from the last quarrel back: each one's heat, and what follows by (10 - p) of ten
        for (int i = HIGHEST_HEAT - 1; i >= 0; i--) {
            long burning = (long) v.gap(a, b, subject) * v.heatAfter(subject, i);
            above = burning * 10 * below + (10 - p) * above;
            below = 10 * below;
        }
        return lowest(above, below, under);
    }

    public int fact(int log, int k, int what) {
        Rows rows = told.logAt(log);
        return rows == null ? ABSENT : rows.answer(k, what);
    }

    public int fits(int village, int log, int what) {
        Village v = told.villageAt(village);
        Rows rows = told.logAt(log);
        return v == null || rows == null || !guess.gather(v, rows) ? ABSENT : guess.answer(v, what);
    }

    public int drawn(int village, int seed, int n, int what) {
        Village v = told.villageAt(village);
        if (v == null || n < 0 || n > MOST_DRAWN) {
            return ABSENT;
        }
        scene.playBySeed(v, seed, n);
        return scene.answer(what);
    }

    public int spent(int village, int a, int b, int n, int k) {
        Village v = told.villageAt(village);
        if (v == null || !v.hasCouple(a, b) || n < 0 || n > MOST_SPENT) {
            return NONE;
        }
        return scene.spend(v, a, b, n, k);
    }

    public int kept(int village, int a, int b, int subject, int hearth) {
        Village v = told.villageAt(village);
        if (v == null || v.gap(a, b, subject) == NONE || !v.hasHearth(hearth)) {
            return NONE;
        }
        return keeper.hours(v, v.gap(a, b, subject), subject, hearth);
    }

    public int calm(int village, int subject, int what) {
        Village v = told.villageAt(village);
        if (v == null || !v.hasSubject(subject)) {
            return ABSENT;
        }
        switch (what) {
            case 0:
                return scene.makeCalm(v, subject);
            case 1:
                scene.makeCalm(v, subject);
                return scene.now.firstHeld(subject);
            case 2:
                return v.firstHeld(subject) == NONE ? NONE : v.middle(subject);
            case 3:
                return v.differing(subject, v.middle(subject));
            case 4:
                return v.leavingForOath(subject);
            default:
                return ABSENT;
        }
    }

    public int hired(int village, int a, int b, boolean much) {
        Village v = told.villageAt(village);
        if (v == null || !v.hasCouple(a, b)) {
            return NONE;
        }
        int best = NONE;
        int most = 0;
        for (int s = 0; s < v.subjects; s++) {
            int burning = v.burningByHire(b, s);
            if (burning > most) {
                best = s;
                most = burning;
            }
        }
        return best == NONE || !much ? best : most;
    }

    public int filled(int village, int hearth, int k) {
        Village v = told.villageAt(village);
        if (v == null || !v.hasHearth(hearth)) {
            return NONE;
        }
        quarrels.fill(v, hearth);
        if (k == NONE) {
            return quarrels.bestHeat;
        }
        return k >= 0 && k < quarrels.bestCount ? quarrels.best[k] : NONE;
    }

    public int halves(int village, boolean camp) {
        Village v = told.villageAt(village);
        if (v == null || v.people == 0) {
            return NONE;
        }
        couples.gatherKeenest(v);
        int bits = couples.bestCamp();
        return camp ? bits : couples.acrossCamps(bits);
    }

    public int circle(int village, int k) {
        Village v = told.villageAt(village);
        if (v == null) {
            return NONE;
        }
        chain.gather(v);
        chain.findLongest();
        if (k == NONE) {
            return chain.bestCount;
        }
        return k >= 0 && k < chain.bestCount ? chain.best[k] : NONE;
    }

    public int kindred(int village, int what) {
        Village v = told.villageAt(village);
        if (v == null) {
            return ABSENT;
        }
        switch (what) {
            case 0:
                return v.kins();
            case 1:
                return v.largestKin();
            case 2:
                chain.gather(v);
                return chain.trios();
            default:
                if (what < 10 || !v.hasPerson(what - 10)) {
                    return ABSENT;
                }
                couples.gatherTogether(v);
                return couples.ranked(what - 10);
        }
    }

    public long mean(int village, int subject, boolean under) {
        Village v = told.villageAt(village);
        if (v == null || !v.hasSubject(subject)) {
            return NONE;
        }
        long sum = 0;
        long pairs = 0;
        for (int a = 0; a < v.people; a++) {
            for (int b = a + 1; b < v.people; b++) {
                if (v.gap(a, b, subject) != NONE) {
                    sum += v.burning(a, b, subject);
                    pairs++;
                }
            }
        }
        return pairs == 0 ? NONE : lowest(sum, pairs, under);
    }

    public int after(int village, int day, int what) {
        Village v = told.villageAt(village);
        Rows rows = told.dayAt(day);
        if (v == null || rows == null) {
            return ABSENT;
        }
        scene.play(v, rows, MOST_DEEDS);
        switch (what) {
            case 0:
                return scene.hottest;
            case 1:
                return scene.loudest();
            case 2:
                return scene.split;
            case 3:
                return scene.cosy;
            default:
                return ABSENT;
        }
    }

    public int next(int village, int log, int a, int b, boolean most) {
        Village v = told.villageAt(village);
        Rows rows = told.logAt(log);
        if (v == null || rows == null || !v.hasCouple(a, b) || !guess.gather(v, rows)) {
            return NONE;
        }
        return guess.extreme(v, a, b, most);
    }

    public int farthest(int village, int subject, boolean apart) {
        Village v = told.villageAt(village);
        if (v == null) {
            return NONE;
        }
        int couple = NONE;
        int most = NONE;
        for (int a = 0; a < v.people; a++) {
            for (int b = a + 1; b < v.people; b++) {
                int gap = v.gap(a, b, subject);
                if (gap > most) {
                    most = gap;
                    couple = 10 * a + b;
                }
            }
        }
        return apart ? most : couple;
    }

    public int quiet(int village) {
        Village v = told.villageAt(village);
        if (v == null) {
            return NONE;
        }
        chain.gather(v);
        return chain.alone();
    }

    public int count(int sort) {
        return sort < 0 || sort >= SORTS ? ABSENT : told.counts[sort];
    }

    public boolean image(int k) {
        if (k < 0 || k >= IMAGES) {
            return false;
        }
        Told kept = images[k];
        if (kept == null) {
            kept = new Told();
            images[k] = kept;
        }
        kept.copy(told);
        return true;
    }

    public boolean again(int k) {
        Told kept = k < 0 || k >= IMAGES ? null : images[k];
        if (kept == null) {
            return false;
        }
        told.copy(kept);
        return true;
    }

    /** One part of a fraction in least terms; below is above 0. */
    private static long lowest(long above, long below, boolean under) {
        long a = above;
        long b = below;
        // Euclid's steps on two longs are fewer than a hundred
        for (int i = 0; i < 200 && b != 0; i++) {
            long rest = a % b;
            a = b;
            b = rest;
        }
        if (a < 1) {
            return NONE;
        }
        return under ? below / a : above / a;
    }

    /** A village, as told or as a day has changed it. */
    private static final class Village {
        int people;
        int subjects;
        int hearths;
        int cools = COOLS_AT_FIRST;
        final int[] heats = new int[MOST_SUBJECTS];
        final int[] fading = new int[MOST_SUBJECTS];
        final int[] wants = new int[MOST_HEARTHS];
        final int[] cracks = new int[MOST_HEARTHS];
        final int[] holdings = new int[MOST_PEOPLE * MOST_SUBJECTS];

        void clear() {
            people = 0;
            subjects = 0;
            hearths = 0;
            cools = COOLS_AT_FIRST;
            Arrays.fill(holdings, NONE);
        }

        void copy(Village from) {
            people = from.people;
            subjects = from.subjects;
            hearths = from.hearths;
            cools = from.cools;
            System.arraycopy(from.heats, 0, heats, 0, MOST_SUBJECTS);
            System.arraycopy(from.fading, 0, fading, 0, MOST_SUBJECTS);
            System.arraycopy(from.wants, 0, wants, 0, MOST_HEARTHS);
            System.arraycopy(from.cracks, 0, cracks, 0, MOST_HEARTHS);
            System.arraycopy(from.holdings, 0, holdings, 0, MOST_PEOPLE * MOST_SUBJECTS);
        }

        boolean hasPerson(int p) {
            return p >= 0 && p < people;
        }

        boolean hasCouple(int a, int b) {
            return a != b && hasPerson(a) && hasPerson(b);
        }

        boolean hasSubject(int s) {
            return s >= 0 && s < subjects;
        }

        boolean hasHearth(int h) {
            return h >= 0 && h < hearths;
        }

        int held(int p, int s) {
            boolean there = p >= 0 && p < people && s >= 0 && s < subjects;
            return there ? holdings[p * MOST_SUBJECTS + s] : NONE;
        }

        void hold(int p, int s, int what) {
            if (p >= 0 && p < MOST_PEOPLE && s >= 0 && s < MOST_SUBJECTS) {
                holdings[p * MOST_SUBJECTS + s] = what;
            }
        }

        int heat(int s) {
            return hasSubject(s) ? heats[s] : 0;
        }

        int answer(int what) {
            switch (what) {
                case 0:
                    return people;
                case 1:
                    return subjects;
                case 2:
                    return hearths;
                case 3:
                    return cools;
                default:
                    return what >= 100 ? answerHeld(what) : answerNumbers(what);
            }
        }

        private int answerNumbers(int what) {
            if (what >= 10 && hasSubject(what - 10)) {
                return heats[what - 10];
            }
            if (what >= 20 && hasSubject(what - 20)) {
                return fading[what - 20];
            }
            if (what >= 30 && hasHearth(what - 30)) {
                return wants[what - 30];
            }
            if (what >= 40 && hasHearth(what - 40)) {
                return cracks[what - 40];
            }
            return ABSENT;
        }

        int answerHeld(int what) {
            int p = (what - 100) / 10;
            int s = (what - 100) % 10;
            return what >= 100 && hasPerson(p) && hasSubject(s) ? held(p, s) : ABSENT;
        }

        /** How far two are apart; NONE if they are one, or are not there, or do not both hold something. */
        int gap(int a, int b, int s) {
            if (a == b) {
                return NONE;
            }
            int one = held(a, s);
            int other = held(b, s);
            return one == NONE || other == NONE ? NONE : Math.abs(one - other);
        }

        int burning(int a, int b, int s) {
            return Math.max(0, gap(a, b, s)) * heat(s);
        }

        int heatAfter(int s, int quarrels) {
            return hasSubject(s) ? Math.max(0, heats[s] - quarrels * fading[s]) : 0;
        }

        void fade(int s) {
            if (hasSubject(s)) {
                heats[s] = heatAfter(s, 1);
            }
        }

        int hottestBetween(int a, int b) {
            int best = NONE;
            int most = 0;
            for (int s = 0; s < subjects; s++) {
                int burning = burning(a, b, s);
                if (burning > most) {
                    best = s;
                    most = burning;
                }
            }
            return best;
        }

        // a heat of 9 at most that fades by 1 at least is gone behind nine quarrels
        int quarrelsInAll(int a, int b, int s) {
            int times = 0;
            if (gap(a, b, s) > 0) {
                for (int i = 0; i < HIGHEST_HEAT; i++) {
                    times += heatAfter(s, i) > 0 ? 1 : 0;
                }
            }
            return times;
        }

        int burningInAll(int a, int b, int s) {
            int sum = 0;
            for (int i = 0; i < HIGHEST_HEAT; i++) {
                sum += heatAfter(s, i);
            }
            return Math.max(0, gap(a, b, s)) * sum;
        }

        int burningOnAll(int a, int b) {
            int sum = 0;
            for (int s = 0; s < subjects; s++) {
                sum += burningInAll(a, b, s);
            }
            return sum;
        }

        int burningByHire(int b, int s) {
            int other = held(b, s);
            return other == NONE ? 0 : Math.abs(HIGHEST_HELD - other - other) * heat(s);
        }

        boolean agreeOn(int a, int b, int s) {
            if (gap(a, b, s) == NONE) {
                return false;
            }
            int half = (held(a, s) + held(b, s)) / 2;
            hold(a, s, half);
            hold(b, s, half);
            return true;
        }

        /** The first two who are apart on a subject agree; false if none are. */
        boolean agreeFirst(int s) {
            for (int a = 0; a < people; a++) {
                for (int b = a + 1; b < people; b++) {
                    if (gap(a, b, s) > 0) {
                        return agreeOn(a, b, s);
                    }
                }
            }
            return false;
        }

        int firstHeld(int s) {
            for (int p = 0; p < people; p++) {
                if (held(p, s) != NONE) {
                    return held(p, s);
                }
            }
            return NONE;
        }

        int differing(int s, int from) {
            int sum = 0;
            for (int p = 0; p < people; p++) {
                sum += held(p, s) == NONE ? 0 : Math.abs(held(p, s) - from);
            }
            return sum;
        }

        int middle(int s) {
            int best = 0;
            for (int from = 1; from <= HIGHEST_HELD; from++) {
                if (differing(s, from) < differing(s, best)) {
                    best = from;
                }
            }
            return best;
        }

        int leavingForOath(int s) {
            int holders = 0;
            int staying = 0;
            for (int what = 0; what <= HIGHEST_HELD; what++) {
                int same = holdersOf(s, what);
                holders += same;
                staying = Math.max(staying, same);
            }
            return holders - staying;
        }

        private int holdersOf(int s, int what) {
            int sum = 0;
            for (int p = 0; p < people; p++) {
                sum += held(p, s) == what ? 1 : 0;
            }
            return sum;
        }

        int kins() {
            int sum = 0;
            for (int p = 0; p < people; p++) {
                sum += kinFrom(0, p, p) == 0 ? 1 : 0;
            }
            return sum;
        }

        int largestKin() {
            int most = 0;
            for (int p = 0; p < people; p++) {
                most = Math.max(most, kinFrom(0, people, p));
            }
            return most;
        }

        private int kinFrom(int from, int to, int p) {
            int sum = 0;
            for (int q = from; q < to; q++) {
                sum += sameKin(p, q) ? 1 : 0;
            }
            return sum;
        }

        private boolean sameKin(int a, int b) {
            for (int s = 0; s < subjects; s++) {
                if (held(a, s) != held(b, s)) {
                    return false;
                }
            }
            return true;
        }
    }

    /** The deeds of a day, or the facts of a log: rows of numbers, all of one width. */
    private static final class Rows {
        final int width;
        final int most;
        final int[] cells;
        int count;

        Rows(int width, int most) {
            this.width = width;
            this.most = most;
            cells = new int[width * most];
        }

        void copy(Rows from) {
            if (from.width == width && from.most == most) {
                count = from.count;
                System.arraycopy(from.cells, 0, cells, 0, width * most);
            }
        }

        int cell(int k, int i) {
            return k >= 0 && k < count && i >= 0 && i < width ? cells[k * width + i] : ABSENT;
        }

        int answer(int k, int what) {
            if (k == NONE) {
                return what == 0 ? count : ABSENT;
            }
            return cell(k, what);
        }

        boolean isFull() {
            return count >= most;
        }

        /** A further row, of which all cells are still to be set. */
        void addRow() {
            if (!isFull()) {
                count++;
            }
        }

        void setLast(int i, int number) {
            if (count > 0 && i >= 0 && i < width) {
                cells[(count - 1) * width + i] = number;
            }
        }
    }

    /** All that is told: what an image keeps. */
    private static final class Told {
        final byte[] tape = new byte[MOST_BYTES];
        int size;
        int fault;
        int faultPlace = NONE;
        final int[] counts = new int[SORTS];
        final Village[] villages = new Village[MOST_OF_A_SORT];
        final Rows[] days = new Rows[MOST_OF_A_SORT];
        final Rows[] logs = new Rows[MOST_OF_A_SORT];

        Told() {
            for (int i = 0; i < MOST_OF_A_SORT; i++) {
                villages[i] = new Village();
                days[i] = new Rows(DEED_WIDTH, MOST_DEEDS);
                logs[i] = new Rows(FACT_WIDTH, MOST_FACTS);
            }
        }

        void copy(Told from) {
            System.arraycopy(from.tape, 0, tape, 0, MOST_BYTES);
            size = from.size;
            fault = from.fault;
            faultPlace = from.faultPlace;
            System.arraycopy(from.counts, 0, counts, 0, SORTS);
            for (int i = 0; i < MOST_OF_A_SORT; i++) {
                villages[i].copy(from.villages[i]);
                days[i].copy(from.days[i]);
                logs[i].copy(from.logs[i]);
            }
        }

        void addBytes(int four) {
            for (int shift = 24; shift >= 0 && size < MOST_BYTES; shift -= 8) {
                tape[size] = (byte) (four >>> shift);
                size++;
            }
        }

        boolean isThere(int sort, int i) {
            return i >= 0 && i < counts[sort] && i < MOST_OF_A_SORT;
        }

        Village villageAt(int i) {
            return isThere(VILLAGES, i) ? villages[i] : null;
        }

        Rows dayAt(int i) {
            return isThere(DAYS, i) ? days[i] : null;
        }

        Rows logAt(int i) {
            return isThere(LOGS, i) ? logs[i] : null;
        }

        /** Where a text is to go, or NONE if it may not come. */
        int placeFor(int sort, int at) {
            if (sort < 0 || sort >= SORTS) {
                return NONE;
            }
            if (at == NONE) {
                return counts[sort] < MOST_OF_A_SORT ? counts[sort] : NONE;
            }
            return isThere(sort, at) ? at : NONE;
        }

        void put(int sort, int place, Reader reader) {
            if (sort < 0 || sort >= SORTS || place < 0 || place >= MOST_OF_A_SORT) {
                return;
            }
            if (sort == VILLAGES) {
                villages[place].copy(reader.village);
            } else if (sort == DAYS) {
                days[place].copy(reader.day);
            } else {
                logs[place].copy(reader.log);
            }
            counts[sort] = Math.max(counts[sort], place + 1);
        }
    }

    /** Reads the tape as a text into rows of its own, so that a text with a fault changes nothing told. */
    private static final class Reader {
        private static final int AT_END = 0;
        private static final int WORD = 1;
        private static final int NUMBER = 2;
        private static final int SEMICOLON = 3;
        private static final int NO_TOKEN = 4;

        private static final int PEOPLE_LINE = 0;
        private static final int COOLS_LINE = 1;
        private static final int SUBJECT_LINE = 2;
        private static final int HEARTH_LINE = 3;
        private static final int HOLDS_LINE = 4;
        private static final int QUARREL_LINE = 5;
        private static final int AGREE_LINE = 6;
        private static final int DENY_LINE = 7;
        private static final int NEWS_LINE = 8;
        private static final int HOUR_LINE = 9;
        private static final int BURNED_LINE = 10;

        private static final int MOST_NUMBERS = 4;
        // of each sort of line: how many numbers it has, and the bounds of each, four to a row
        private static final int[] NUMBERS = {1, 1, 2, 2, 3, 4, 3, 3, 2, 0, 3};
        private static final int[] LEAST = {
            0, 0, 0, 0,
            0, 0, 0, 0,
            1, 1, 0, 0,
            1, 1, 0, 0,
            0, 0, 0, 0,
            0, 0, 0, 0,
            0, 0, 0, 0,
            0, 0, 0, 0,
            0, 0, 0, 0,
            0, 0, 0, 0,
            0, 0, 0, 0
        };
        private static final int[] MOST = {
            8, 0, 0, 0,
            9, 0, 0, 0,
            9, 9, 0, 0,
            60, 99, 0, 0,
            7, 5, 9, 0,
            7, 7, 5, 3,
            7, 7, 5, 0,
            7, 7, 5, 0,
            5, 9, 0, 0,
            0, 0, 0, 0,
            7, 7, 99, 0
        };

        final Village village = new Village();
        final Rows day = new Rows(DEED_WIDTH, MOST_DEEDS);
        final Rows log = new Rows(FACT_WIDTH, MOST_FACTS);
        int fault;
        int faultPlace;
        private final byte[] tape = new byte[MOST_BYTES];
        private final int[] numbers = new int[MOST_NUMBERS];
        private int size;
        private int kind;
        private int from;
        private int to;
        private int peopleNeeded;
        private int subjectsNeeded;

        void readText(int sort, byte[] bytes, int count) {
            size = Math.max(0, Math.min(count, Math.min(bytes.length, MOST_BYTES)));
            System.arraycopy(bytes, 0, tape, 0, size);
            to = 0;
            fault = 0;
            faultPlace = NONE;
            peopleNeeded = 0;
            subjectsNeeded = 0;
            village.clear();
            day.count = 0;
            log.count = 0;
            step();
            // a line takes a byte at least
            for (int lines = 0; lines < MOST_BYTES && kind != AT_END && fault != 1; lines++) {
                readLine(sort);
            }
            if (fault == 0 && (peopleNeeded > village.people || subjectsNeeded > village.subjects)) {
                note(4, size);
            }
        }

        private void readLine(int sort) {
            int line = kind == WORD ? lineOf(sort) : NONE;
            if (line == NONE) {
                breakOff();
                return;
            }
            if (isOneTooMany(line)) {
                note(3, from);
            }
            step();
            for (int i = 0; i < NUMBERS[line] && i < MOST_NUMBERS; i++) {
                if (kind != NUMBER) {
                    breakOff();
                    return;
                }
                numbers[i] = numberHere();
                if (!mayBe(line, i)) {
                    note(2, from);
                }
                step();
            }
            if (kind != SEMICOLON) {
                breakOff();
                return;
            }
            if (fault == 0) {
                take(line);
            }
            step();
        }

        // a text that can't be read through has fault 1, whatever was noted ahead of it
        private void breakOff() {
            fault = 1;
            faultPlace = from;
        }

        // lines are read in order, so the first one noted is the first by place
        private void note(int what, int place) {
            if (fault == 0) {
                fault = what;
                faultPlace = place;
            }
        }

        private int lineOf(int sort) {
            if (sort == VILLAGES) {
                return villageLine();
            }
            if (sort == DAYS) {
                return dayLine();
            }
            return isWord("burned") ? BURNED_LINE : NONE;
        }

        private int villageLine() {
            if (isWord("people")) {
                return PEOPLE_LINE;
            }
            if (isWord("cools")) {
                return COOLS_LINE;
            }
            if (isWord("subject")) {
                return SUBJECT_LINE;
            }
            if (isWord("hearth")) {
                return HEARTH_LINE;
            }
            return isWord("holds") ? HOLDS_LINE : NONE;
        }

        private int dayLine() {
            if (isWord("quarrel")) {
                return QUARREL_LINE;
            }
            if (isWord("agree")) {
                return AGREE_LINE;
            }
            if (isWord("deny")) {
                return DENY_LINE;
            }
            if (isWord("news")) {
                return NEWS_LINE;
            }
            return isWord("hour") ? HOUR_LINE : NONE;
        }

        private boolean isOneTooMany(int line) {
            switch (line) {
                case PEOPLE_LINE:
                case COOLS_LINE:
                case HOLDS_LINE:
                    return false;
                case SUBJECT_LINE:
                    return village.subjects >= MOST_SUBJECTS;
                case HEARTH_LINE:
                    return village.hearths >= MOST_HEARTHS;
                case BURNED_LINE:
                    return log.isFull();
                default:
                    return day.isFull();
            }
        }

        private boolean mayBe(int line, int i) {
            int number = numbers[i];
            int bound = line * MOST_NUMBERS + i;
            if (number < LEAST[bound] || number > MOST[bound]) {
                return false;
            }
            if (i != 1) {
                return true;
            }
            switch (line) {
                case HEARTH_LINE:
                    return number >= numbers[0];
                case QUARREL_LINE:
                case AGREE_LINE:
                case DENY_LINE:
                case BURNED_LINE:
                    return number != numbers[0];
                default:
                    return true;
            }
        }

        private void take(int line) {
            switch (line) {
                case PEOPLE_LINE:
                    village.people = numbers[0];
                    break;
                case COOLS_LINE:
                    village.cools = numbers[0];
                    break;
                case SUBJECT_LINE:
                    takeSubject();
                    break;
                case HEARTH_LINE:
                    takeHearth();
                    break;
                case HOLDS_LINE:
                    village.hold(numbers[0], numbers[1], numbers[2]);
                    peopleNeeded = Math.max(peopleNeeded, numbers[0] + 1);
                    subjectsNeeded = Math.max(subjectsNeeded, numbers[1] + 1);
                    break;
                case BURNED_LINE:
                    takeFact();
                    break;
                default:
                    takeDeed(line);
                    break;
            }
        }

        private void takeSubject() {
            if (village.subjects < MOST_SUBJECTS) {
                village.heats[village.subjects] = numbers[0];
                village.fading[village.subjects] = numbers[1];
                village.subjects++;
            }
        }

        private void takeHearth() {
            if (village.hearths < MOST_HEARTHS) {
                village.wants[village.hearths] = numbers[0];
                village.cracks[village.hearths] = numbers[1];
                village.hearths++;
            }
        }

        private void takeFact() {
            log.addRow();
            for (int i = 0; i < FACT_WIDTH; i++) {
                log.setLast(i, numbers[i]);
            }
        }

        private void takeDeed(int line) {
            day.addRow();
            day.setLast(0, line - QUARREL_LINE);
            for (int i = 0; i < MOST_NUMBERS; i++) {
                day.setLast(i + 1, i < NUMBERS[line] ? numbers[i] : NONE);
            }
        }

        /** On to the next token: its kind, and where it begins and ends. */
        private void step() {
            from = to;
            while (from < size && (tape[from] == 10 || tape[from] == 32)) {
                from++;
            }
            to = from;
            if (from >= size) {
                kind = AT_END;
            } else if (isLetter(tape[from])) {
                while (to < size && isLetter(tape[to])) {
                    to++;
                }
                kind = WORD;
            } else if (isDigit(tape[from])) {
                while (to < size && isDigit(tape[to])) {
                    to++;
                }
                kind = to - from <= 2 ? NUMBER : NO_TOKEN;
            } else {
                to++;
                kind = tape[from] == ';' ? SEMICOLON : NO_TOKEN;
            }
        }

        private static boolean isLetter(int sign) {
            return sign >= 'a' && sign <= 'z';
        }

        private static boolean isDigit(int sign) {
            return sign >= '0' && sign <= '9';
        }

        private boolean isWord(String word) {
            if (to - from != word.length()) {
                return false;
            }
            for (int i = 0; i < word.length(); i++) {
                if (tape[from + i] != word.charAt(i)) {
                    return false;
                }
            }
            return true;
        }

        private int numberHere() {
            int number = 0;
            for (int i = from; i < to; i++) {
                number = 10 * number + tape[i] - '0';
            }
            return number;
        }
    }

    /** A village in the course of a day; of what was told nothing is changed. */
    private static final class Scene {
        final Village now = new Village();
        final int[] warm = new int[MOST_HEARTHS];
        final int[] quarrelled = new int[MOST_PEOPLE];
        int hour;
        int cracked;
        int busy;
        int burned;
        int hottest;
        int split;
        int cosy;
        private int seed;

        void begin(Village v) {
            now.copy(v);
            Arrays.fill(warm, 0);
            Arrays.fill(quarrelled, 0);
            hour = 0;
            cracked = 0;
            busy = 0;
            burned = 0;
            hottest = 0;
            split = NONE;
            cosy = 0;
        }

        /** The first deeds, n at most, as far as they can be: how many were done. */
        int play(Village v, Rows day, int n) {
            begin(v);
            look();
            int k = 0;
            while (k < n && k < day.count) {
                if (!act(day.cell(k, 0), day.cell(k, 1), day.cell(k, 2), day.cell(k, 3), day.cell(k, 4))) {
                    return k;
                }
                if (split == NONE && cracked != 0) {
                    split = k;
                }
                look();
                k++;
            }
            return k;
        }

        private void look() {
            boolean all = true;
            for (int h = 0; h < now.hearths; h++) {
                hottest = Math.max(hottest, warm[h]);
                all = all && warm[h] >= now.wants[h];
            }
            cosy += all ? 1 : 0;
        }

        int loudest() {
            int best = NONE;
            int most = 0;
            for (int p = 0; p < now.people; p++) {
                if (quarrelled[p] > most) {
                    best = p;
                    most = quarrelled[p];
                }
            }
            return best;
        }

        int answer(int what) {
            switch (what) {
                case 0:
                    return hour;
                case 1:
                    return cracked;
                case 2:
                    return busy;
                case 3:
                    return burned;
                default:
                    return what >= 100 ? now.answerHeld(what) : answerHeat(what);
            }
        }

        private int answerHeat(int what) {
            if (what >= 10 && now.hasHearth(what - 10)) {
                return warm[what - 10];
            }
            return what >= 20 && now.hasSubject(what - 20) ? now.heats[what - 20] : ABSENT;
        }

        /** A deed is done; false, and nothing is changed, if it can't be. */
        private boolean act(int kind, int first, int second, int third, int fourth) {
            switch (kind) {
                case QUARREL:
                    return letQuarrel(first, second, third, fourth);
                case AGREE:
                    return now.agreeOn(first, second, third);
                case DENY:
                    return letDeny(first, second, third);
                case NEWS:
                    return spread(first, second);
                case HOUR:
                    return letHourPass();
                default:
                    return false;
            }
        }

        private boolean letQuarrel(int a, int b, int s, int h) {
            int burning = now.burning(a, b, s);
            if (burning == 0 || !now.hasCouple(a, b) || !now.hasHearth(h)) {
                return false;
            }
            int both = 1 << a | 1 << b;
            if ((busy & both) != 0 || (cracked & 1 << h) != 0) {
                return false;
            }
            busy |= both;
            quarrelled[a]++;
            quarrelled[b]++;
            burned += burning;
            warm[h] += burning;
            if (warm[h] > now.cracks[h]) {
                cracked |= 1 << h;
                warm[h] = 0;
            }
            now.fade(s);
            return true;
        }

        private boolean letDeny(int a, int b, int s) {
            int other = now.held(b, s);
            if (other == NONE || !now.hasCouple(a, b)) {
                return false;
            }
            now.hold(a, s, HIGHEST_HELD - other);
            return true;
        }

        private boolean spread(int s, int what) {
            if (!now.hasSubject(s)) {
                return false;
            }
            for (int p = 0; p < now.people; p++) {
                now.hold(p, s, what);
            }
            now.heats[s] = HIGHEST_HEAT;
            return true;
        }

        private boolean letHourPass() {
            if (hour >= MOST_HOURS) {
                return false;
            }
            for (int h = 0; h < MOST_HEARTHS; h++) {
                warm[h] = Math.max(0, warm[h] - now.cools);
            }
            busy = 0;
            hour++;
            return true;
        }

        void playBySeed(Village v, int x, int n) {
            begin(v);
            seed = x;
            for (int i = 0; i < n; i++) {
                drawDeed();
            }
        }

        private void drawDeed() {
            int kind = below(8);
            if (kind == 7) {
                letHourPass();
                return;
            }
            if (!mayDraw(kind)) {
                return;
            }
            if (kind == 6) {
                int subject = below(now.subjects);
                spread(subject, below(10));
                return;
            }
            int a = below(now.people);
            int behind = below(now.people - 1) + 1 + a;
            int b = now.people > 0 ? behind % now.people : 0;
            int s = below(now.subjects);
            if (kind == 4) {
                now.agreeOn(a, b, s);
            } else if (kind == 5) {
                letDeny(a, b, s);
            } else {
                letQuarrel(a, b, s, below(now.hearths));
            }
        }

        private boolean mayDraw(int kind) {
            boolean peopleMay = kind > 5 || now.people > 1;
            boolean hearthsMay = kind > 3 || now.hearths > 0;
            return now.subjects > 0 && peopleMay && hearthsMay;
        }

        private int below(int n) {
            seed = seed * 1103515245 + 12345;
            return n > 0 ? (seed >>> 16) % n : 0;
        }

        /** What n quarrels burn in all (k NONE), or the k-th subject, NONE if there are not so many. */
        int spend(Village v, int a, int b, int n, int k) {
            begin(v);
            int sum = 0;
            for (int i = 0; i < n; i++) {
                int s = now.hottestBetween(a, b);
                if (s == NONE) {
                    break;
                }
                if (i == k) {
                    return s;
                }
                sum += now.burning(a, b, s);
                now.fade(s);
            }
            return k == NONE ? sum : NONE;
        }

        int makeCalm(Village v, int s) {
            begin(v);
            int times = 0;
            // each time the squares of what eight hold, 648 at most, are together less by 1 at least
            while (times < 1000 && now.agreeFirst(s)) {
                times++;
            }
            return times;
        }
    }

    /** What each two have between them: marriages, ranks, camps. */
    private static final class Couples {
        final int[] spouse = new int[MOST_PEOPLE];
        private final int[] between = new int[MOST_PEOPLE * MOST_PEOPLE];
        private int people;

        void gatherTogether(Village v) {
            people = v.people;
            for (int a = 0; a < people; a++) {
                for (int b = a + 1; b < people; b++) {
                    setBetween(a, b, v.burningOnAll(a, b));
                }
            }
        }

        void gatherKeenest(Village v) {
            people = v.people;
            for (int a = 0; a < people; a++) {
                for (int b = a + 1; b < people; b++) {
                    setBetween(a, b, v.burning(a, b, v.hottestBetween(a, b)));
                }
            }
        }

        private void setBetween(int a, int b, int heat) {
            between[a * MOST_PEOPLE + b] = heat;
            between[b * MOST_PEOPLE + a] = heat;
        }

        void marry() {
            Arrays.fill(spouse, NONE);
            boolean more = true;
            for (int i = 0; i < MOST_PEOPLE && more; i++) {
                more = marryKeenest();
            }
        }

        private boolean marryKeenest() {
            int first = NONE;
            int second = NONE;
            int most = 0;
            for (int a = 0; a < people; a++) {
                for (int b = a + 1; b < people; b++) {
                    int heat = between[a * MOST_PEOPLE + b];
                    if (spouse[a] == NONE && spouse[b] == NONE && heat > most) {
                        first = a;
                        second = b;
                        most = heat;
                    }
                }
            }
            if (first == NONE || second == NONE) {
                return false;
            }
            spouse[first] = second;
            spouse[second] = first;
            return true;
        }

        /** The most that couples of the people from a on have who are not taken (bits). */
        private int mostFrom(int a, int taken) {
            if (a >= people) {
                return 0;
            }
            int most = mostFrom(a + 1, taken);
            if ((taken & 1 << a) != 0) {
                return most;
            }
            for (int b = a + 1; b < people; b++) {
                if ((taken & 1 << b) == 0) {
                    int heat = between[a * MOST_PEOPLE + b] + mostFrom(a + 1, taken | 1 << b);
                    most = Math.max(most, heat);
                }
            }
            return most;
        }

        int mostInAll() {
            return mostFrom(0, 0);
        }

        int ranked(int k) {
            for (int p = 0; p < people; p++) {
                if (aheadOf(p) == k) {
                    return p;
                }
            }
            return NONE;
        }

        private int aheadOf(int p) {
            int sum = 0;
            for (int q = 0; q < people; q++) {
                int more = withAll(q) - withAll(p);
                sum += more > 0 || more == 0 && q < p ? 1 : 0;
            }
            return sum;
        }

        private int withAll(int p) {
            int sum = 0;
            for (int q = 0; q < people; q++) {
                sum += q == p ? 0 : between[p * MOST_PEOPLE + q];
            }
            return sum;
        }

        int bestCamp() {
            int best = 1;
            int most = acrossCamps(1);
            for (int bits = 3; bits < 1 << people; bits += 2) {
                int heat = acrossCamps(bits);
                if (heat > most) {
                    best = bits;
                    most = heat;
                }
            }
            return best;
        }

        int acrossCamps(int bits) {
            int sum = 0;
            for (int a = 0; a < people; a++) {
                for (int b = a + 1; b < people; b++) {
                    boolean across = (bits >>> a & 1) != (bits >>> b & 1);
                    sum += across ? between[a * MOST_PEOPLE + b] : 0;
                }
            }
            return sum;
        }
    }

    /** All quarrels that burn in a village as told, by numbers; which of them go together at hearths. */
    private static final class Quarrels {
        private static final int MOST_QUARRELS = 168;
        private static final int TOO_MUCH = 1000;
        // of eight people an even number is taken, so that the bit of person 0 can be left out
        private static final int MOST_TAKEN = 8192;

        final int[] best = new int[MOST_HEARTHS];
        int bestCount;
        int bestHeat;
        private final int[] names = new int[MOST_QUARRELS];
        private final int[] heats = new int[MOST_QUARRELS];
        // bits of the subject, and behind them the bits of the two people
        private final int[] takes = new int[MOST_QUARRELS];
        // by what is taken: the least that burns at the hearths which are left, NONE where it is not known
        private final int[] leastBeyond = new int[MOST_TAKEN];
        private int size;

        private void gather(Village v) {
            size = 0;
            for (int s = 0; s < v.subjects; s++) {
                for (int a = 0; a < v.people; a++) {
                    for (int b = a + 1; b < v.people; b++) {
                        int people = 1 << a | 1 << b;
                        add(100 * s + 10 * a + b, v.burning(a, b, s), people << MOST_SUBJECTS | 1 << s);
                    }
                }
            }
        }

        private void add(int name, int heat, int bits) {
            if (heat > 0 && size < MOST_QUARRELS) {
                names[size] = name;
                heats[size] = heat;
                takes[size] = bits;
                size++;
            }
        }

        /** The plan, by best and bestHeat; false if there is none. */
        boolean arrange(Village v) {
            gather(v);
            Arrays.fill(leastBeyond, NONE);
            bestHeat = leastFrom(v, 0, 0);
            if (bestHeat >= TOO_MUCH) {
                return false;
            }
            int taken = 0;
            for (int h = 0; h < v.hearths; h++) {
                taken |= chooseFirst(v, h, taken);
            }
            return true;
        }

        // so many quarrels are taken as hearths are behind us, so what is taken tells the hearth, too
        private int leastFrom(Village v, int h, int taken) {
            if (!v.hasHearth(h)) {
                return 0;
            }
            int key = keyOf(taken);
            if (leastBeyond[key] == NONE) {
                int least = TOO_MUCH;
                for (int i = 0; i < size; i++) {
                    if (suits(v, i, h, taken)) {
                        least = Math.min(least, heats[i] + leastFrom(v, h + 1, taken | takes[i]));
                    }
                }
                leastBeyond[key] = least;
            }
            return leastBeyond[key];
        }

        private static int keyOf(int taken) {
            int people = taken >>> MOST_SUBJECTS + 1 << MOST_SUBJECTS;
            int subjects = taken & (1 << MOST_SUBJECTS) - 1;
            return (people | subjects) & MOST_TAKEN - 1;
        }

        private boolean suits(Village v, int i, int h, int taken) {
            return (takes[i] & taken) == 0 && heats[i] >= v.wants[h] && heats[i] <= v.cracks[h];
        }

        /** The first quarrel by numbers at a hearth, with which what is left is still least: what it takes. */
        private int chooseFirst(Village v, int h, int taken) {
            int least = leastFrom(v, h, taken);
            for (int i = 0; i < size; i++) {
                if (suits(v, i, h, taken) && heats[i] + leastFrom(v, h + 1, taken | takes[i]) == least) {
                    best[h] = names[i];
                    return takes[i];
                }
            }
            return 0;
        }

        /** The most that one quarrel or two bring at a hearth, by best, bestCount and bestHeat. */
        void fill(Village v, int h) {
            gather(v);
            bestHeat = 0;
            bestCount = 0;
            int limit = v.hasHearth(h) ? v.cracks[h] : 0;
            for (int i = 0; i < size; i++) {
                if (heats[i] > bestHeat && heats[i] <= limit) {
                    bestHeat = heats[i];
                    bestCount = 1;
                    best[0] = names[i];
                }
            }
            for (int i = 0; i < size; i++) {
                fillBehind(i, limit);
            }
        }

        private void fillBehind(int i, int limit) {
            for (int j = i + 1; j < size; j++) {
                int heat = heats[i] + heats[j];
                if (heat > bestHeat && heat <= limit && (takes[i] & takes[j]) == 0) {
                    bestHeat = heat;
                    bestCount = 2;
                    best[0] = names[i];
                    best[1] = names[j];
                }
            }
        }
    }

    /** How long two can keep a hearth warm. */
    private static final class Keeper {
        // by warmth: the hours that count from here on, with so many quarrels gone, and with one more gone
        private final int[] here = new int[HIGHEST_WARM + 1];
        private final int[] later = new int[HIGHEST_WARM + 1];

        int hours(Village v, int gap, int s, int h) {
            if (!v.hasHearth(h)) {
                return 0;
            }
            Arrays.fill(later, 0);
            for (int gone = HIGHEST_HEAT; gone >= 0; gone--) {
                int burning = gap * v.heatAfter(s, gone);
                for (int warm = 0; warm <= HIGHEST_WARM; warm++) {
                    int most = Math.max(byQuarrel(v, h, warm, burning), byRest(v, h, warm));
                    here[warm] = Math.min(MOST_HOURS, most);
                }
                System.arraycopy(here, 0, later, 0, HIGHEST_WARM + 1);
            }
            return here[0];
        }

        private int byQuarrel(Village v, int h, int warm, int burning) {
            int then = warm + burning;
            if (burning == 0 || then < v.wants[h] || then > v.cracks[h] || then > HIGHEST_WARM) {
                return 0;
            }
            return 1 + later[Math.max(0, then - v.cools)];
        }

        // what it is by less warmth is known already; without cooling it stays as it is
        private int byRest(Village v, int h, int warm) {
            if (warm < v.wants[h]) {
                return 0;
            }
            return v.cools == 0 ? MOST_HOURS : 1 + here[Math.max(0, warm - v.cools)];
        }
    }

    /** Who is apart from whom on any subject: the longest row, threes, those who are quiet. */
    private static final class Chain {
        final int[] best = new int[MOST_PEOPLE];
        int bestCount;
        private final int[] row = new int[MOST_PEOPLE];
        private final int[] against = new int[MOST_PEOPLE];
        private int people;

        void gather(Village v) {
            people = v.people;
            for (int a = 0; a < people; a++) {
                against[a] = 0;
                for (int b = 0; b < people; b++) {
                    against[a] |= apartOnAny(v, a, b) ? 1 << b : 0;
                }
            }
        }

        private static boolean apartOnAny(Village v, int a, int b) {
            for (int s = 0; s < v.subjects; s++) {
                if (v.gap(a, b, s) > 0) {
                    return true;
                }
            }
            return false;
        }

        void findLongest() {
            bestCount = 0;
            grow(0, (1 << people) - 1, 0);
        }

        /** A row of so many goes on with those who may come next and are not used (bits). */
        private void grow(int count, int may, int used) {
            if (count > bestCount) {
                bestCount = count;
                System.arraycopy(row, 0, best, 0, MOST_PEOPLE);
            }
            if (count >= MOST_PEOPLE) {
                return;
            }
            for (int p = 0; p < people && bestCount < people; p++) {
                if ((may & ~used & 1 << p) != 0) {
                    row[count] = p;
                    grow(count + 1, against[p], used | 1 << p);
                }
            }
        }

        int trios() {
            int sum = 0;
            for (int a = 0; a < people; a++) {
                for (int b = a + 1; b < people; b++) {
                    if ((against[a] & 1 << b) != 0) {
                        // those behind b, so that each three counts once
                        sum += Integer.bitCount((against[a] & against[b]) >>> b + 1);
                    }
                }
            }
            return sum;
        }

        int alone() {
            int bits = 0;
            for (int p = 0; p < people; p++) {
                bits |= against[p] == 0 ? 1 << p : 0;
            }
            return bits;
        }
    }

    /** On what subject, behind how many quarrels, a log can have been. */
    private static final class Guess {
        private static final int HIGHEST_BURNING = HIGHEST_HEAT * HIGHEST_HELD;

        private final int[] found = new int[MOST_SUBJECTS * (MOST_AHEAD + 1)];
        private final int[] tally = new int[HIGHEST_BURNING + 1];
        private int size;
        private int facts;

        /** Which fit, by numbers; false if a person of the log is not there. */
        boolean gather(Village v, Rows log) {
            size = 0;
            facts = log.count;
            for (int i = 0; i < facts; i++) {
                if (!v.hasPerson(log.cell(i, 0)) || !v.hasPerson(log.cell(i, 1))) {
                    return false;
                }
            }
            for (int s = 0; s < v.subjects; s++) {
                for (int ahead = 0; ahead <= MOST_AHEAD; ahead++) {
                    if (size < found.length && isAsLogged(v, log, s, ahead)) {
                        found[size] = 10 * s + ahead;
                        size++;
                    }
                }
            }
            return true;
        }

        private boolean isAsLogged(Village v, Rows log, int s, int ahead) {
            for (int i = 0; i < facts; i++) {
                int gap = v.gap(log.cell(i, 0), log.cell(i, 1), s);
                if (Math.max(0, gap) * v.heatAfter(s, ahead + i) != log.cell(i, 2)) {
                    return false;
                }
            }
            return true;
        }

        private int burningNext(Village v, int i, int a, int b) {
            int s = found[i] / 10;
            int gone = found[i] % 10 + facts;
            return Math.max(0, v.gap(a, b, s)) * v.heatAfter(s, gone);
        }

        int answer(Village v, int what) {
            switch (what) {
                case 0:
                    return size;
                case 1:
                    return sure();
                case 2:
                    return ask(v);
                default:
                    return what >= 10 && what - 10 < size ? found[what - 10] : ABSENT;
            }
        }

        // they stand by numbers, so all are on one subject if the first and the last are
        private int sure() {
            if (size == 0 || found[0] / 10 != found[size - 1] / 10) {
                return NONE;
            }
            return found[0] / 10;
        }

        private int ask(Village v) {
            int best = NONE;
            int least = size;
            if (size > 0) {
                for (int a = 0; a < v.people; a++) {
                    for (int b = a + 1; b < v.people; b++) {
                        int alike = mostAlike(v, a, b);
                        if (best == NONE || alike < least) {
                            best = 10 * a + b;
                            least = alike;
                        }
                    }
                }
            }
            return best;
        }

        private int mostAlike(Village v, int a, int b) {
            Arrays.fill(tally, 0);
            int most = 0;
            for (int i = 0; i < size; i++) {
                int burning = Math.min(HIGHEST_BURNING, burningNext(v, i, a, b));
                tally[burning]++;
                most = Math.max(most, tally[burning]);
            }
            return most;
        }

        /** The least or the most that it would burn, NONE if nothing fits. */
        int extreme(Village v, int a, int b, boolean most) {
            int best = NONE;
            for (int i = 0; i < size; i++) {
                int burning = burningNext(v, i, a, b);
                if (best == NONE || (most ? burning > best : burning < best)) {
                    best = burning;
                }
            }
            return best;
        }
    }
}
