import java.util.Arrays;

/**
 * Weather sayings of farmers, held against the diaries of three valleys. DOC.md tells what each call
 * answers; words in capitals are its terms. All rows are made with the object and used again, since
 * what calls make is never given back.
 */
public final class RedSky {
    public static final int NONE = -1, UNKNOWN = -101, OUTSIDE = -102, STATE = -103, FULL = -104;

    private static final int YEARS = 4, MONTHS = 12, DATES = 31, DAYS = 1461;
    private static final int SAINTS = 8, MOST_MOVED = 30;
    private static final int VALLEYS = 3, FIELDS = 4, RAIN = 2, MOST_GAPS = 1000;
    private static final int LETTERS = 80, LETTERS_AT_ONCE = 8, LAST_LETTER = 126;
    private static final int SAYINGS = 8, ANSWERS = 12;
    private static final int ENTRIES = 2, LEARNINGS = 12;
    private static final int ALMANACS = 6, OLDEST = 9999, LONGEST_STRIDE = 400, GREATEST_RATIO = 100;
    private static final int GAP = -1000, UNKNOWN_FIELD = -10101, UNKNOWN_WORTH = -100000001;

    private final Calendar calendar = new Calendar();
    private final Diary[] diaries = new Diary[VALLEYS];
    private final Page page = new Page();
    private final Saying[] sayings = new Saying[SAYINGS];
    private int said = 0;
    private final Scales scales = new Scales();
    private final Reading reading = new Reading();
    private final Reading otherReading = new Reading();
    private final Days chosen = new Days();
    private final Learner learner = new Learner();
    private final Almanac[] almanacs = new Almanac[ALMANACS];
    private final Likeness likeness = new Likeness();

    public RedSky() {
        for (int v = 0; v < VALLEYS; v++) {
            diaries[v] = new Diary();
        }
        for (int k = 0; k < SAYINGS; k++) {
            sayings[k] = new Saying();
        }
        for (int a = 0; a < ALMANACS; a++) {
            almanacs[a] = new Almanac();
        }
    }

    // ---- the calendar

    public int first(int f) {
        if (!within(f, 0, YEARS - 1)) {
            return OUTSIDE;
        }
        int before = calendar.firstYear;
        calendar.firstYear = f;
        for (int v = 0; v < VALLEYS; v++) {
            diaries[v].clear();
        }
        for (int a = 0; a < ALMANACS; a++) {
            almanacs[a].clear();
        }
        return before;
    }

    public int day(int y, int m, int d) {
        if (!isYear(y) || !isMonth(m) || !isDate(d)) {
            return OUTSIDE;
        }
        return calendar.dayOf(y, m, d);
    }

    public int date(int n, int what) {
        if (!isDay(n)) {
            return UNKNOWN;
        }
        switch (what) {
            case 0: return calendar.yearOf(n);
            case 1: return calendar.monthOf(n);
            case 2: return calendar.dateOf(n);
            default: return OUTSIDE;
        }
    }

    public int saint(int saint, int m, int d, int y, int k) {
        if (!within(saint, 0, SAINTS - 1)) {
            return UNKNOWN;
        }
        if (!isMonth(m) || !isDate(d) || !isYear(y) || !within(k, -MOST_MOVED, MOST_MOVED)) {
            return OUTSIDE;
        }
        calendar.saintMonths[saint] = m;
        calendar.saintDates[saint] = d;
        calendar.saintYears[saint] = y;
        calendar.saintMoves[saint] = k;
        return 1;
    }

    public int feast(int saint, int y) {
        if (!within(saint, 0, SAINTS - 1)) {
            return UNKNOWN;
        }
        if (!isYear(y)) {
            return OUTSIDE;
        }
        return calendar.feastDay(saint, y);
    }

    // ---- diaries

    public int write(int v, int y, int x, int g) {
        Diary diary = diaryOf(v);
        if (diary == null || !isYear(y)) {
            return UNKNOWN;
        }
        if (x < 0 || !within(g, 0, MOST_GAPS)) {
            return OUTSIDE;
        }
        int from = calendar.startOf(y), end = calendar.endOf(y);
        diary.writeDays(from, end, x, g);
        return FIELDS * (end - from) - diary.numbersIn(from, end);
    }

    public int set(int v, int n, int f, int w, boolean is) {
        Diary diary = diaryOf(v);
        if (diary == null || !isDay(n) || !isField(f)) {
            return UNKNOWN;
        }
        if (!within(w, Diary.LOWEST[f], Diary.HIGHEST[f])) {
            return OUTSIDE;
        }
        int before = diary.fieldAt(n, f);
        diary.putField(n, f, is ? w : GAP);
        return before == GAP ? 0 : 1;
    }

    public int get(int v, int n, int f) {
        Diary diary = diaryOf(v);
        if (diary == null || !isDay(n) || !isField(f)) {
            return UNKNOWN_FIELD;
        }
        return diary.fieldAt(n, f);
    }

    public int kept(int v, int y) {
        Diary diary = diaryOf(v);
        if (diary == null || !isYear(y)) {
            return UNKNOWN;
        }
        return diary.numbersIn(calendar.startOf(y), calendar.endOf(y));
    }

    // ---- sayings

    public int letters(long w) {
        int more = Page.lettersIn(w);
        if (more == NONE) {
            return OUTSIDE;
        }
        if (page.length + more > LETTERS) {
            return FULL;
        }
        page.append(w, more);
        return page.length;
    }

    public int blank() {
        int had = page.length;
        page.length = 0;
        return had;
    }

    public int say() {
        if (page.readLetters() < page.length || !page.isWhole()) {
            return STATE;
        }
        if (!within(said, 0, SAYINGS - 1)) {
            return FULL;
        }
        page.finish();
        Saying idle = sayings[said];
        sayings[said] = page.draft;
        page.draft = idle;
        page.length = 0;
        said++;
        return said - 1;
    }

    public int good() {
        return page.readLetters();
    }

    public int asks(int k, int what) {
        Saying saying = sayingOf(k);
        if (saying == null) {
            return UNKNOWN;
        }
        return saying.answer(what);
    }

    public int forget() {
        int were = said;
        said = 0;
        return were;
    }

    // ---- worth

    public int truth(int k, int v, int n, int side) {
        Saying saying = sayingOf(k);
        Diary diary = diaryOf(v);
        if (saying == null || diary == null || !isDay(n)) {
            return UNKNOWN;
        }
        if (!within(side, 0, 2)) {
            return OUTSIDE;
        }
        reading.read(saying, diary, calendar, scales);
        return reading.truthOn(n, side);
    }

    public int cases(int k, int v, int a, int b, int what) {
        Saying saying = sayingOf(k);
        Diary diary = diaryOf(v);
        if (saying == null || diary == null) {
            return UNKNOWN;
        }
        if (!isYear(a) || !isYear(b) || b < a || !within(what, 0, 3)) {
            return OUTSIDE;
        }
        reading.read(saying, diary, calendar, scales);
        chosen.clear();
        chosen.addFrom(calendar.startOf(a), calendar.endOf(b));
        return reading.part(what).sizeWith(chosen);
    }

    public int month(int k, int v, int m, int what) {
        Saying saying = sayingOf(k);
        Diary diary = diaryOf(v);
        if (saying == null || diary == null) {
            return UNKNOWN;
        }
        if (!isMonth(m) || !within(what, 0, 3)) {
            return OUTSIDE;
        }
        reading.read(saying, diary, calendar, scales);
        chosen.clear();
        calendar.addMonths(m, m, chosen);
        return reading.part(what).sizeWith(chosen);
    }

    public int expected(int k, int v) {
        Saying saying = sayingOf(k);
        Diary diary = diaryOf(v);
        if (saying == null || diary == null) {
            return UNKNOWN;
        }
        reading.read(saying, diary, calendar, scales);
        return expectedOfReading();
    }

    public int worth(int k, int v) {
        Saying saying = sayingOf(k);
        Diary diary = diaryOf(v);
        if (saying == null || diary == null) {
            return UNKNOWN_WORTH;
        }
        reading.read(saying, diary, calendar, scales);
        return worthOfReading();
    }

    public int turned(int k, int v, int t, int what) {
        Saying saying = sayingOf(k);
        Diary diary = diaryOf(v);
        if (saying == null || diary == null) {
            return UNKNOWN;
        }
        if (!within(t, 1, YEARS - 1) || !within(what, 0, 1)) {
            return OUTSIDE;
        }
        reading.read(saying, diary, calendar, scales);
        reading.turn(t, calendar);
        return what == 0 ? reading.right.size() : reading.cases.size();
    }

    public int chance(int k, int v) {
        Saying saying = sayingOf(k);
        Diary diary = diaryOf(v);
        if (saying == null || diary == null) {
            return UNKNOWN;
        }
        reading.read(saying, diary, calendar, scales);
        int right = reading.right.size(), cases = reading.cases.size();
        int asGood = 0;
        for (int t = 1; t < YEARS; t++) {
            reading.turn(t, calendar);
            // shares multiplied out: without CASES on a side both products are 0
            if (reading.right.size() * cases >= right * reading.cases.size()) {
                asGood++;
            }
        }
        return asGood;
    }

    public int parted(int k, int j, int v) {
        Saying one = sayingOf(k);
        Saying other = sayingOf(j);
        Diary diary = diaryOf(v);
        if (one == null || other == null || diary == null) {
            return UNKNOWN;
        }
        return partedDays(one, other, diary);
    }

    public int one(int k, int j) {
        Saying one = sayingOf(k);
        Saying other = sayingOf(j);
        if (one == null || other == null) {
            return UNKNOWN;
        }
        for (int v = 0; v < VALLEYS; v++) {
            if (partedDays(one, other, diaries[v]) > 0) {
                return 0;
            }
        }
        return 1;
    }

    public int home(int k) {
        Saying saying = sayingOf(k);
        if (saying == null) {
            return UNKNOWN;
        }
        int best = NONE, most = 0;
        for (int v = 0; v < VALLEYS; v++) {
            reading.read(saying, diaries[v], calendar, scales);
            if (reading.cases.size() == 0) {
                continue;
            }
            int worth = worthOfReading();
            if (best == NONE || worth > most) {
                best = v;
                most = worth;
            }
        }
        return best;
    }

    // ---- lists

    public int learn(int v, int target, int size, int years) {
        Diary diary = diaryOf(v);
        Saying aim = sayingOf(target);
        if (diary == null || aim == null) {
            return UNKNOWN;
        }
        if (!within(size, 0, ENTRIES) || !within(years, 0, (1 << YEARS) - 1)) {
            return OUTSIDE;
        }
        if (learner.done >= LEARNINGS) {
            return STATE;
        }
        reading.read(aim, diary, calendar, scales);
        chosen.clear();
        calendar.addYears(years, chosen);
        learner.aimAt(reading.secondKnown, reading.secondTrue, chosen);
        for (int k = 0; k < said && k < SAYINGS; k++) {
            reading.readFirst(sayings[k], diary, calendar, scales);
            learner.hear(k, reading.season, reading.firstTrue);
        }
        learner.choose(said, size);
        return learner.learnedRight;
    }

    public int entry(int i) {
        return learner.entryAt(i);
    }

    public int list(int what) {
        return learner.answer(what);
    }

    // ---- almanacs

    public int age(int a, int g) {
        Almanac almanac = almanacOf(a);
        if (almanac == null) {
            return UNKNOWN;
        }
        if (!within(g, 0, OLDEST)) {
            return OUTSIDE;
        }
        int before = almanac.years;
        almanac.years = g;
        return before;
    }

    public int draw(int a, int y, int x) {
        Almanac almanac = almanacOf(a);
        if (almanac == null || !isYear(y)) {
            return UNKNOWN;
        }
        if (x < 0) {
            return OUTSIDE;
        }
        return almanac.drawDays(calendar.startOf(y), calendar.endOf(y), x);
    }

    public int copy(int a, int b, int y, int stride) {
        Almanac almanac = almanacOf(a);
        Almanac model = almanacOf(b);
        if (almanac == null || model == null || !isYear(y)) {
            return UNKNOWN;
        }
        if (!within(stride, 1, LONGEST_STRIDE) || a == b) {
            return OUTSIDE;
        }
        return almanac.copyDays(model, calendar.startOf(y), calendar.endOf(y), stride);
    }

    public int foretell(int a, int n, int w) {
        Almanac almanac = almanacOf(a);
        if (almanac == null || !isDay(n)) {
            return UNKNOWN;
        }
        if (!within(w, NONE, 1)) {
            return OUTSIDE;
        }
        int before = almanac.foretoldFor(n);
        almanac.put(n, w);
        return before;
    }

    public int wrong(int a, int v) {
        Almanac almanac = almanacOf(a);
        Diary diary = diaryOf(v);
        if (almanac == null || diary == null) {
            return UNKNOWN;
        }
        likeness.readRain(diary);
        likeness.compare(almanac, almanac);
        return likeness.oneWrong;
    }

    public int shared(int a, int b, int v, int what) {
        Almanac almanac = almanacOf(a);
        Almanac other = almanacOf(b);
        Diary diary = diaryOf(v);
        if (almanac == null || other == null || diary == null) {
            return UNKNOWN;
        }
        if (!within(what, 0, 3)) {
            return OUTSIDE;
        }
        likeness.readRain(diary);
        likeness.compare(almanac, other);
        return likeness.answer(what);
    }

    public int alike(int a, int b, int v, int ratio) {
        Almanac almanac = almanacOf(a);
        Almanac other = almanacOf(b);
        Diary diary = diaryOf(v);
        if (almanac == null || other == null || diary == null) {
            return UNKNOWN;
        }
        if (!within(ratio, 1, GREATEST_RATIO)) {
            return OUTSIDE;
        }
        likeness.readRain(diary);
        likeness.compare(almanac, other);
        return likeness.reaches(ratio) ? 1 : 0;
    }

    public int source(int a, int v, int ratio) {
        Almanac almanac = almanacOf(a);
        Diary diary = diaryOf(v);
        if (almanac == null || diary == null) {
            return UNKNOWN;
        }
        if (!within(ratio, 1, GREATEST_RATIO)) {
            return OUTSIDE;
        }
        likeness.readRain(diary);
        return sourceOf(almanac, ratio);
    }

    public int spring(int a, int v, int ratio) {
        Almanac almanac = almanacOf(a);
        Diary diary = diaryOf(v);
        if (almanac == null || diary == null) {
            return UNKNOWN;
        }
        if (!within(ratio, 1, GREATEST_RATIO)) {
            return OUTSIDE;
        }
        likeness.readRain(diary);
        int last = a;
        // each SOURCE is of less AGE, so a chain has no more steps than there are ALMANACS
        for (int i = 0; i < ALMANACS && almanac != null; i++) {
            int ahead = sourceOf(almanac, ratio);
            almanac = almanacOf(ahead);
            if (almanac != null) {
                last = ahead;
            }
        }
        return last;
    }

    // ---- what is told

    public int count(int what) {
        switch (what) {
            case 0: return said;
            case 1: return page.length;
            case 2: return calendar.firstYear;
            case 3: return learner.done;
            default: return OUTSIDE;
        }
    }

    public long digest() {
        long h = mixed(199L, calendar.firstYear);
        for (int s = 0; s < SAINTS; s++) {
            h = mixed(h, calendar.saintMonths[s]);
            h = mixed(h, calendar.saintDates[s]);
            h = mixed(h, calendar.saintYears[s]);
            h = mixed(h, calendar.saintMoves[s]);
        }
        for (int v = 0; v < VALLEYS; v++) {
            h = diaries[v].mixInto(h);
        }
        for (int i = 0; i < page.length; i++) {
            h = mixed(h, page.letterAt(i));
        }
        for (int k = 0; k < said && k < SAYINGS; k++) {
            for (int what = 0; what < ANSWERS; what++) {
                h = mixed(h, sayings[k].answer(what));
            }
        }
        for (int a = 0; a < ALMANACS; a++) {
            h = almanacs[a].mixInto(h);
        }
        return mixed(h, learner.done);
    }

    // ---- what the calls have in common

    private static boolean within(int x, int least, int most) {
        return x >= least && x <= most;
    }

    private static boolean isYear(int y) {
        return within(y, 0, YEARS - 1);
    }

    private static boolean isMonth(int m) {
        return within(m, 1, MONTHS);
    }

    private static boolean isDate(int d) {
        return within(d, 1, DATES);
    }

    private static boolean isDay(int n) {
        return within(n, 0, DAYS - 1);
    }

    private static boolean isField(int f) {
        return within(f, 0, FIELDS - 1);
    }

    private static int nextSeed(int x) {
        return 1103515245 * x + 12345 & 0x7fffffff;
    }

    private static long mixed(long h, int it) {
        return 31L * h + it;
    }

    private Diary diaryOf(int v) {
        return within(v, 0, VALLEYS - 1) ? diaries[v] : null;
    }

    private Saying sayingOf(int k) {
        return k >= 0 && k < said && k < SAYINGS ? sayings[k] : null;
    }

    private Almanac almanacOf(int a) {
        return within(a, 0, ALMANACS - 1) ? almanacs[a] : null;
    }

    private int expectedOfReading() {
        int sum = 0;
        for (int m = 1; m <= MONTHS; m++) {
            chosen.clear();
            calendar.addMonths(m, m, chosen);
            int counted = reading.counted.sizeWith(chosen);
            if (counted > 0) {
                sum += reading.cases.sizeWith(chosen) * 1000 * reading.fulfilled.sizeWith(chosen) / counted;
            }
        }
        return sum;
    }

    private int worthOfReading() {
        return 1000 * reading.right.size() - expectedOfReading();
    }

    private int partedDays(Saying one, Saying other, Diary diary) {
        reading.read(one, diary, calendar, scales);
        otherReading.read(other, diary, calendar, scales);
        // where both or neither are CASES, unlike RIGHT means that both are CASES
        chosen.take(reading.cases);
        chosen.differ(otherReading.cases);
        reading.right.differ(otherReading.right);
        chosen.join(reading.right);
        chosen.meet(reading.firstKnown);
        chosen.meet(reading.secondKnown);
        chosen.meet(otherReading.firstKnown);
        chosen.meet(otherReading.secondKnown);
        return chosen.size();
    }

    private int sourceOf(Almanac almanac, int ratio) {
        int best = NONE, most = 0;
        for (int b = 0; b < ALMANACS; b++) {
            if (almanacs[b].years >= almanac.years) {
                continue;
            }
            likeness.compare(almanac, almanacs[b]);
            if (likeness.reaches(ratio) && (best == NONE || likeness.shared > most)) {
                best = b;
                most = likeness.shared;
            }
        }
        return best;
    }

    /**
     * A set of DAYS, a bit each: truths are such sets, so that 64 DAYS are asked at once. Bits behind the
     * last DAY stay 0.
     */
    private static final class Days {
        private static final int WORDS = 23;
        private static final long LAST_WORD = (1L << (DAYS & 63)) - 1L;

        final long[] bits = new long[WORDS];

        void clear() {
            Arrays.fill(bits, 0L);
        }

        void fill() {
            clear();
            turnOver();
        }

        boolean has(int n) {
            return n >= 0 && n < DAYS && (bits[n >> 6] >>> (n & 63) & 1L) == 1L;
        }

        void add(int n) {
            if (n >= 0 && n < DAYS) {
                bits[n >> 6] |= 1L << (n & 63);
            }
        }

        void remove(int n) {
            if (n >= 0 && n < DAYS) {
                bits[n >> 6] &= ~(1L << (n & 63));
            }
        }

        void addFrom(int start, int end) {
            for (int n = start; n < end; n++) {
                add(n);
            }
        }

        void take(Days other) {
            System.arraycopy(other.bits, 0, bits, 0, WORDS);
        }

        void meet(Days other) {
            for (int i = 0; i < WORDS; i++) {
                bits[i] &= other.bits[i];
            }
        }

        void join(Days other) {
            for (int i = 0; i < WORDS; i++) {
                bits[i] |= other.bits[i];
            }
        }

        void leave(Days other) {
            for (int i = 0; i < WORDS; i++) {
                bits[i] &= ~other.bits[i];
            }
        }

        void differ(Days other) {
            for (int i = 0; i < WORDS; i++) {
                bits[i] ^= other.bits[i];
            }
        }

        void turnOver() {
            for (int i = 0; i < WORDS; i++) {
                bits[i] = ~bits[i];
            }
            bits[WORDS - 1] &= LAST_WORD;
        }

        /** Of these DAYS those stay that have a DAY of the other set k DAYS on (k from 0 to 63). */
        void meetAhead(Days other, int k) {
            for (int i = 0; i < WORDS; i++) {
                bits[i] &= other.wordAhead(i, k);
            }
        }

        void joinAhead(Days other, int k) {
            for (int i = 0; i < WORDS; i++) {
                bits[i] |= other.wordAhead(i, k);
            }
        }

        private long wordAhead(int i, int k) {
            if (i < 0 || i >= WORDS) {
                return 0L;
            }
            long low = bits[i] >>> k;
            // a shift by 64 would be none at all
            return k == 0 || i + 1 >= WORDS ? low : low | bits[i + 1] << (64 - k);
        }

        int size() {
            int sum = 0;
            for (int i = 0; i < WORDS; i++) {
                sum += Long.bitCount(bits[i]);
            }
            return sum;
        }

        int sizeWith(Days other) {
            int sum = 0;
            for (int i = 0; i < WORDS; i++) {
                sum += Long.bitCount(bits[i] & other.bits[i]);
            }
            return sum;
        }
    }

    /** The YEARS, their MONTHS and DATES, and the SAINTS. */
    private static final class Calendar {
        private static final int[] LENGTHS = {31, 28, 31, 30, 31, 30, 31, 31, 30, 31, 30, 31};

        int firstYear = 1;
        final int[] saintMonths = new int[SAINTS];
        final int[] saintDates = new int[SAINTS];
        final int[] saintYears = new int[SAINTS];
        final int[] saintMoves = new int[SAINTS];

        Calendar() {
            Arrays.fill(saintMonths, 1);
            Arrays.fill(saintDates, 1);
        }

        private boolean isLong(int y) {
            return (firstYear + y) % 4 == 0;
        }

        int startOf(int y) {
            int start = 0;
            for (int i = 0; i < YEARS && i < y; i++) {
                start += isLong(i) ? 366 : 365;
            }
            return start;
        }

        int endOf(int y) {
            return startOf(y + 1);
        }

        int monthLength(int y, int m) {
            if (m < 1 || m > MONTHS) {
                return 0;
            }
            return m == 2 && isLong(y) ? 29 : LENGTHS[m - 1];
        }

        int dayOf(int y, int m, int d) {
            if (!within(d, 1, monthLength(y, m))) {
                return NONE;
            }
            int n = startOf(y) + d - 1;
            for (int i = 1; i < MONTHS && i < m; i++) {
                n += monthLength(y, i);
            }
            return n;
        }

        int yearOf(int n) {
            int y = 0;
            while (y < YEARS - 1 && n >= endOf(y)) {
                y++;
            }
            return y;
        }

        int monthOf(int n) {
            int y = yearOf(n), m = 1;
            int end = startOf(y) + monthLength(y, m);
            while (m < MONTHS && n >= end) {
                m++;
                end += monthLength(y, m);
            }
            return m;
        }

        int dateOf(int n) {
            return n - dayOf(yearOf(n), monthOf(n), 1) + 1;
        }

        int feastDay(int saint, int y) {
            if (!within(saint, 0, SAINTS - 1)) {
                return NONE;
            }
            int n = dayOf(y, saintMonths[saint], saintDates[saint]);
            if (n == NONE) {
                return NONE;
            }
            int moved = y >= saintYears[saint] ? n + saintMoves[saint] : n;
            return isDay(moved) ? moved : NONE;
        }

        /** Adds the MONTHS from the first to the last, over the end of the YEAR if the last is less. */
        void addMonths(int from, int to, Days out) {
            for (int y = 0; y < YEARS; y++) {
                for (int m = 1; m <= MONTHS; m++) {
                    boolean inside = from <= to ? within(m, from, to) : m >= from || m <= to;
                    if (inside) {
                        int start = dayOf(y, m, 1);
                        out.addFrom(start, start + monthLength(y, m));
                    }
                }
            }
        }

        void addYears(int years, Days out) {
            for (int y = 0; y < YEARS; y++) {
                if ((years >> y & 1) == 1) {
                    out.addFrom(startOf(y), endOf(y));
                }
            }
        }

        void findSeason(Saying saying, Days out) {
            out.clear();
            if (saying.saint != NONE) {
                for (int y = 0; y < YEARS; y++) {
                    out.add(feastDay(saying.saint, y));
                }
            } else if (saying.fromMonth != NONE) {
                addMonths(saying.fromMonth, saying.toMonth, out);
            } else {
                out.fill();
            }
        }
    }

    /**
     * The DIARY of a VALLEY: to save room, the four FIELDS of a DAY share one number, each as its place
     * above the lowest, from 1; 0 is a gap.
     */
    private static final class Diary {
        static final int[] LOWEST = {0, 0, 0, -30};
        static final int[] HIGHEST = {3, 9, 99, 40};
        private static final int[] SHIFTS = {0, 3, 7, 14};
        private static final int[] MASKS = {7, 15, 127, 127};

        private final int[] sheet = new int[DAYS];

        void clear() {
            Arrays.fill(sheet, 0);
        }

        int fieldAt(int n, int f) {
            if (!isDay(n) || !isField(f)) {
                return GAP;
            }
            int place = sheet[n] >> SHIFTS[f] & MASKS[f];
            return place == 0 ? GAP : place - 1 + LOWEST[f];
        }

        void putField(int n, int f, int w) {
            if (!isDay(n) || !isField(f)) {
                return;
            }
            int place = w == GAP ? 0 : w - LOWEST[f] + 1;
            sheet[n] = sheet[n] & ~(MASKS[f] << SHIFTS[f]) | (place & MASKS[f]) << SHIFTS[f];
        }

        void writeDays(int from, int end, int seed, int g) {
            int x = seed;
            for (int n = from; n < end; n++) {
                for (int f = 0; f < FIELDS; f++) {
                    x = nextSeed(x);
                    boolean gap = g > 0 && x / 256 % g == 0;
                    putField(n, f, gap ? GAP : written(f, x / 65536));
                }
            }
        }

        private static int written(int f, int z) {
            switch (f) {
                case 0: return z % 4;
                case 1: return z % 10;
                case 2: return z % 3 == 0 ? 0 : z % 100;
                default: return z % 71 - 30;
            }
        }

        int numbersIn(int from, int end) {
            int sum = 0;
            for (int n = from; n < end; n++) {
                for (int f = 0; f < FIELDS; f++) {
                    if (fieldAt(n, f) != GAP) {
                        sum++;
                    }
                }
            }
            return sum;
        }

        /** The DAYS on which none of these FIELDS (as bits) is a gap. */
        void findKnown(int fields, Days out) {
            out.fill();
            for (int f = 0; f < FIELDS; f++) {
                if ((fields >> f & 1) == 0) {
                    continue;
                }
                int asked = MASKS[f] << SHIFTS[f];
                for (int n = 0; n < DAYS; n++) {
                    if ((sheet[n] & asked) == 0) {
                        out.remove(n);
                    }
                }
            }
        }

        /** The DAYS on which a FIELD is a number less than this (order -1), equal (0), greater (1). */
        void findCompared(int f, int order, int number, Days out) {
            out.clear();
            if (f < 0 || f >= FIELDS) {
                return;
            }
            int shift = SHIFTS[f], mask = MASKS[f], place = number - LOWEST[f] + 1;
            for (int n = 0; n < DAYS; n++) {
                int has = sheet[n] >> shift & mask;
                if (has != 0 && Integer.compare(has, place) == order) {
                    out.add(n);
                }
            }
        }

        long mixInto(long start) {
            long h = start;
            for (int n = 0; n < DAYS; n++) {
                for (int f = 0; f < FIELDS; f++) {
                    int w = fieldAt(n, f);
                    if (w != GAP) {
                        h = mixed(h, 2048 * n + 256 * f + w);
                    }
                }
            }
            return h;
        }
    }

    /** A CONDITION as steps on a stack of truths: comparisons put one there, NOT, AND, OR work on the uppermost. */
    private static final class Condition {
        static final int NOT = 12, AND = 13, OR = 14;
        private static final int ORDERS = 3;

        // never more steps than letters
        private final byte[] steps = new byte[LETTERS];
        private final short[] numbers = new short[LETTERS];
        int length;
        int fields;
        int comparisons;
        int depth;

        void clear() {
            length = 0;
            fields = 0;
            comparisons = 0;
            depth = 0;
        }

        void addStep(int step) {
            if (length >= 0 && length < LETTERS) {
                steps[length] = (byte) step;
                numbers[length] = 0;
                length++;
            }
        }

        /** Adds a comparison with 0: its place among the steps. */
        int addComparison(int f, int order) {
            addStep(ORDERS * f + order + 1);
            fields |= 1 << f;
            comparisons++;
            return length - 1;
        }

        int numberAt(int i) {
            return within(i, 0, LETTERS - 1) ? numbers[i] : 0;
        }

        void putNumber(int i, int number) {
            if (within(i, 0, LETTERS - 1)) {
                numbers[i] = (short) number;
            }
        }

        int stepAt(int i) {
            return within(i, 0, LETTERS - 1) ? steps[i] : NOT;
        }

        static int fieldOf(int step) {
            return step / ORDERS;
        }

        static int orderOf(int step) {
            return step % ORDERS - 1;
        }
    }

    /** A SAYING as it was read; without MONTHS, without a SAINT these are NONE. */
    private static final class Saying {
        final Condition first = new Condition();
        final Condition second = new Condition();
        int from;
        int to;
        boolean onAll;
        int fromMonth;
        int toMonth;
        int saint;

        void clear() {
            first.clear();
            second.clear();
            from = 0;
            to = 0;
            onAll = false;
            fromMonth = NONE;
            toMonth = NONE;
            saint = NONE;
        }

        int answer(int what) {
            switch (what) {
                case 0: return first.fields;
                case 1: return second.fields;
                case 2: return from;
                case 3: return to;
                case 4: return onAll ? 1 : 0;
                case 5: return fromMonth;
                case 6: return toMonth;
                case 7: return saint;
                case 8: return first.comparisons;
                case 9: return second.comparisons;
                case 10: return first.depth;
                case 11: return second.depth;
                default: return OUTSIDE;
            }
        }
    }

    /** THE PAGE, read letter by letter; rows of what is open take the place of recursion, as "(" may stand 80 deep. */
    private static final class Page {
        // what is due next, or was read just now
        private static final int FACTOR = 0, SIGN = 1, NUMBER = 2, DIGIT = 3, FACTOR_READ = 4;
        private static final int SPAN = 5, SPAN_FROM = 6, SPAN_DASH = 7, SPAN_READ = 8;
        private static final int SEASON = 9, SAINT = 10, MONTH_FROM = 11, MONTH_DASH = 12, MONTH_TO = 13, ENDED = 14;
        private static final int MOST_DIGITS = 3;
        private static final String FIELD_LETTERS = "SWRT", ORDER_LETTERS = "<=>";

        int length = 0;
        private final byte[] codes = new byte[LETTERS];
        Saying draft = new Saying();
        private Condition condition = draft.first;
        private boolean inSecond = false;
        private int state = FACTOR;
        private int field = 0;
        private int place = 0;
        private int value = 0;
        private int digits = 0;
        private boolean minus = false;
        // of the part as a whole (0) and of each "(" that is open: what is read of its CONDITION
        private int open = 0;
        private final int[] nots = new int[LETTERS + 1];
        private final int[] factors = new int[LETTERS + 1];
        private final int[] deepestFactor = new int[LETTERS + 1];
        private final int[] terms = new int[LETTERS + 1];
        private final int[] deepestTerm = new int[LETTERS + 1];

        /** How many letters the bytes tell; NONE, if they are not as the document wants them. */
        static int lettersIn(long w) {
            int many = 0;
            boolean ended = false;
            for (int i = 0; i < LETTERS_AT_ONCE; i++) {
                int code = letterIn(w, i);
                if (code > LAST_LETTER || ended && code != 0) {
                    return NONE;
                }
                if (code == 0) {
                    ended = true;
                } else {
                    many++;
                }
            }
            return many;
        }

        private static int letterIn(long w, int i) {
            return (int) (w >>> 8 * i & 255L);
        }

        void append(long w, int many) {
            for (int i = 0; i < many && within(length, 0, LETTERS - 1); i++) {
                codes[length] = (byte) letterIn(w, i);
                length++;
            }
        }

        int letterAt(int i) {
            return i >= 0 && i < length && i < LETTERS ? codes[i] : 0;
        }

        /** How many letters begin some SAYING; the draft is what they tell. */
        int readLetters() {
            draft.clear();
            startCondition(draft.first);
            inSecond = false;
            int read = 0;
            while (read < length && accepts(letterAt(read))) {
                read++;
            }
            return read;
        }

        /** Whether the letters read are a SAYING: the draft. */
        boolean isWhole() {
            boolean endsInSecond = state == FACTOR_READ && inSecond && open == 0;
            return endsInSecond || state == MONTH_TO && value > 0 || state == ENDED;
        }

        /** Puts into the draft what only the end of the letters tells. */
        void finish() {
            if (state == FACTOR_READ) {
                condition.depth = endLevel();
            } else if (state == MONTH_TO) {
                draft.toMonth = value;
            }
        }

        private boolean accepts(int c) {
            switch (state) {
                case FACTOR: return startsFactor(c);
                case SIGN: return readsSign(c);
                case NUMBER: return c == '-' ? readsMinus() : readsDigit(c);
                case DIGIT: return readsDigit(c);
                case FACTOR_READ: return isDigit(c) ? readsDigit(c) : goesOn(c);
                case SPAN:
                case SPAN_FROM:
                case SPAN_DASH:
                case SPAN_READ: return readsSpan(c);
                case SEASON: return c == '#' ? goesTo(SAINT) : readsMonth(c, MONTH_FROM);
                case SAINT: return readsSaint(c);
                case MONTH_FROM: return c == '-' ? readsMonthDash() : readsMonth(c, MONTH_FROM);
                case MONTH_DASH:
                case MONTH_TO: return readsMonth(c, MONTH_TO);
                default: return false;
            }
        }

        private static boolean isDigit(int c) {
            return c >= '0' && c <= '9';
        }

        private boolean goesTo(int next) {
            state = next;
            return true;
        }

        private void startCondition(Condition next) {
            condition = next;
            openLevel(0);
            state = FACTOR;
        }

        private int level() {
            return open >= 0 && open <= LETTERS ? open : 0;
        }

        private boolean openLevel(int level) {
            if (level < 0 || level > LETTERS) {
                return false;
            }
            open = level;
            nots[level] = 0;
            factors[level] = 0;
            deepestFactor[level] = 0;
            terms[level] = 0;
            deepestTerm[level] = 0;
            return true;
        }

        private boolean startsFactor(int c) {
            if (c == '(') {
                return openLevel(open + 1);
            }
            if (c == '!') {
                nots[level()]++;
                return true;
            }
            field = FIELD_LETTERS.indexOf((char) c);
            return field >= 0 && goesTo(SIGN);
        }

        private boolean readsSign(int c) {
            int order = ORDER_LETTERS.indexOf((char) c);
            if (order < 0) {
                return false;
            }
            place = condition.addComparison(field, order - 1);
            digits = 0;
            minus = false;
            return goesTo(NUMBER);
        }

        private boolean readsMinus() {
            minus = true;
            return goesTo(DIGIT);
        }

        private boolean readsDigit(int c) {
            if (!isDigit(c) || digits >= MOST_DIGITS) {
                return false;
            }
            int digit = c - '0';
            condition.putNumber(place, 10 * condition.numberAt(place) + (minus ? -digit : digit));
            digits++;
            if (state != FACTOR_READ) {
                endFactor(1);
            }
            return goesTo(FACTOR_READ);
        }

        private void endFactor(int depth) {
            int i = level();
            if (nots[i] % 2 == 1) {
                condition.addStep(Condition.NOT);
            }
            if (factors[i] > 0) {
                condition.addStep(Condition.AND);
            }
            factors[i]++;
            deepestFactor[i] = Math.max(deepestFactor[i], depth + nots[i]);
            nots[i] = 0;
        }

        private void endTerm() {
            int i = level();
            if (terms[i] > 0) {
                condition.addStep(Condition.OR);
            }
            terms[i]++;
            int depth = factors[i] > 1 ? deepestFactor[i] + 1 : deepestFactor[i];
            deepestTerm[i] = Math.max(deepestTerm[i], depth);
            factors[i] = 0;
            deepestFactor[i] = 0;
        }

        /** Ends the CONDITION that is open: how deep it is. */
        private int endLevel() {
            endTerm();
            int i = level();
            return terms[i] > 1 ? deepestTerm[i] + 1 : deepestTerm[i];
        }

        private boolean goesOn(int c) {
            // no digit may follow what is not one
            digits = MOST_DIGITS;
            switch (c) {
                case '&': return goesTo(FACTOR);
                case '|':
                    endTerm();
                    return goesTo(FACTOR);
                case ')': return open > 0 && closes();
                case ':': return open == 0 && !inSecond && endsFirst();
                case '@': return open == 0 && inSecond && endsSecond();
                default: return false;
            }
        }

        private boolean closes() {
            int depth = endLevel();
            open--;
            endFactor(depth);
            return true;
        }

        private boolean endsFirst() {
            condition.depth = endLevel();
            return goesTo(SPAN);
        }

        private boolean endsSecond() {
            condition.depth = endLevel();
            value = 0;
            digits = 0;
            return goesTo(SEASON);
        }

        private boolean readsSpan(int c) {
            boolean ends = c == '~' || c == '^';
            if (ends && (state == SPAN_FROM || state == SPAN_READ)) {
                draft.onAll = c == '^';
                startCondition(draft.second);
                inSecond = true;
                return true;
            }
            if (c == '-' && state == SPAN_FROM) {
                return goesTo(SPAN_DASH);
            }
            if (!isDigit(c)) {
                return false;
            }
            int days = c - '0';
            if (state == SPAN) {
                draft.from = days;
                draft.to = days;
                return goesTo(SPAN_FROM);
            }
            draft.to = days;
            return state == SPAN_DASH && days >= draft.from && goesTo(SPAN_READ);
        }

        private boolean readsSaint(int c) {
            draft.saint = c - '0';
            return within(draft.saint, 0, SAINTS - 1) && goesTo(ENDED);
        }

        /** A MONTH's digit: NUMBERS may begin with 0, but must be able to become 1 to 12 yet. */
        private boolean readsMonth(int c, int next) {
            if (!isDigit(c) || digits >= MOST_DIGITS) {
                return false;
            }
            value = 10 * value + c - '0';
            digits++;
            boolean mayBeMonth = value <= MONTHS && (value > 0 || digits < MOST_DIGITS);
            return mayBeMonth && goesTo(next);
        }

        private boolean readsMonthDash() {
            boolean isMonth = value > 0;
            draft.fromMonth = value;
            value = 0;
            digits = 0;
            return isMonth && goesTo(MONTH_DASH);
        }
    }

    /** Finds the DAYS on which a CONDITION holds, by its steps on a stack of sets. */
    private static final class Scales {
        // a comparison has three letters and one between it and the next: no more of them go on a PAGE
        private static final int DEEPEST = 24;

        private final Days[] stack = new Days[DEEPEST];

        Scales() {
            for (int i = 0; i < DEEPEST; i++) {
                stack[i] = new Days();
            }
        }

        /** The DAYS on which no FIELD of the CONDITION is a gap, and those of them on which it holds. */
        void weigh(Condition condition, Diary diary, Days known, Days holds) {
            int height = 0;
            for (int i = 0; i < condition.length; i++) {
                height = take(condition.stepAt(i), condition.numberAt(i), diary, height);
            }
            diary.findKnown(condition.fields, known);
            holds.take(stack[0]);
            holds.meet(known);
        }

        private int take(int step, int number, Diary diary, int height) {
            if (step < Condition.NOT) {
                if (height < 0 || height >= DEEPEST) {
                    return height;
                }
                diary.findCompared(Condition.fieldOf(step), Condition.orderOf(step), number, stack[height]);
                return height + 1;
            }
            if (step == Condition.NOT) {
                if (within(height, 1, DEEPEST)) {
                    stack[height - 1].turnOver();
                }
                return height;
            }
            if (!within(height, 2, DEEPEST)) {
                return height;
            }
            if (step == Condition.AND) {
                stack[height - 2].meet(stack[height - 1]);
            } else {
                stack[height - 2].join(stack[height - 1]);
            }
            return height - 1;
        }
    }

    /** A SAYING held against a DIARY: on which DAYS its parts are known and TRUE, which COUNT, are CASES, are RIGHT. */
    private static final class Reading {
        final Days season = new Days();
        final Days firstKnown = new Days();
        final Days firstTrue = new Days();
        final Days secondKnown = new Days();
        final Days secondTrue = new Days();
        final Days counted = new Days();
        final Days cases = new Days();
        final Days right = new Days();
        final Days fulfilled = new Days();
        // of THE SECOND on single DAYS; later THE SECOND as TURNED
        private final Days known = new Days();
        private final Days holds = new Days();

        void read(Saying saying, Diary diary, Calendar calendar, Scales scales) {
            calendar.findSeason(saying, season);
            scales.weigh(saying.first, diary, firstKnown, firstTrue);
            scales.weigh(saying.second, diary, known, holds);
            spread(saying);
            tally(secondKnown, secondTrue);
        }

        void readFirst(Saying saying, Diary diary, Calendar calendar, Scales scales) {
            calendar.findSeason(saying, season);
            scales.weigh(saying.first, diary, firstKnown, firstTrue);
        }

        private void spread(Saying saying) {
            secondKnown.fill();
            secondTrue.clear();
            if (saying.onAll) {
                secondTrue.fill();
            }
            for (int k = saying.from; k <= saying.to; k++) {
                secondKnown.meetAhead(known, k);
                if (saying.onAll) {
                    secondTrue.meetAhead(holds, k);
                } else {
                    secondTrue.joinAhead(holds, k);
                }
            }
            secondTrue.meet(secondKnown);
        }

        private void tally(Days secondIsKnown, Days secondIsTrue) {
            counted.take(season);
            counted.meet(firstKnown);
            counted.meet(secondIsKnown);
            cases.take(counted);
            cases.meet(firstTrue);
            right.take(cases);
            right.meet(secondIsTrue);
            fulfilled.take(counted);
            fulfilled.meet(secondIsTrue);
        }

        /** Counts anew with THE SECOND taken t YEARS on; what read() found of it stays. */
        void turn(int t, Calendar calendar) {
            known.clear();
            holds.clear();
            for (int y = 0; y < YEARS; y++) {
                for (int m = 1; m <= MONTHS; m++) {
                    turnMonth(y, (y + t) % YEARS, m, calendar);
                }
            }
            tally(known, holds);
        }

        private void turnMonth(int y, int turnedYear, int m, Calendar calendar) {
            int here = calendar.dayOf(y, m, 1), there = calendar.dayOf(turnedYear, m, 1);
            int dates = Math.min(calendar.monthLength(y, m), calendar.monthLength(turnedYear, m));
            for (int i = 0; i < dates; i++) {
                if (secondKnown.has(there + i)) {
                    known.add(here + i);
                }
                if (secondTrue.has(there + i)) {
                    holds.add(here + i);
                }
            }
        }

        int truthOn(int n, int side) {
            if (side == 2) {
                return season.has(n) ? 1 : 0;
            }
            boolean isKnown = side == 0 ? firstKnown.has(n) : secondKnown.has(n);
            if (!isKnown) {
                return NONE;
            }
            boolean isTrue = side == 0 ? firstTrue.has(n) : secondTrue.has(n);
            return isTrue ? 1 : 0;
        }

        Days part(int what) {
            switch (what) {
                case 0: return counted;
                case 1: return cases;
                case 2: return right;
                default: return fulfilled;
            }
        }
    }

    /** LEARNS a LIST and keeps what is told of the latest. */
    private static final class Learner {
        int done = 0;
        int learnedRight = 0;
        private final Days[] tells = new Days[SAYINGS];
        private final Days learned = new Days();
        private final Days judged = new Days();
        private final Days fulfilled = new Days();
        private final Days rest = new Days();
        private final Days told = new Days();
        private final int[] tried = new int[ENTRIES];
        private final int[] best = new int[ENTRIES];
        private final boolean[] yes = new boolean[ENTRIES];
        private int entries = 0;
        private boolean lastYes = false;
        private int learnedDays = 0;
        private int judgedDays = 0;
        private int judgedRight = 0;

        Learner() {
            for (int k = 0; k < SAYINGS; k++) {
                tells[k] = new Days();
            }
        }

        void aimAt(Days known, Days isTrue, Days years) {
            learned.take(known);
            learned.meet(years);
            judged.take(known);
            judged.leave(years);
            fulfilled.take(isTrue);
        }

        void hear(int k, Days season, Days isTrue) {
            if (within(k, 0, SAYINGS - 1)) {
                tells[k].take(season);
                tells[k].meet(isTrue);
            }
        }

        /** Fewest ENTRIES and least SAYINGS come first, so that only a better LIST takes the place of another. */
        void choose(int sayings, int size) {
            learnedRight = NONE;
            tryList(0);
            for (int k = 0; size >= 1 && k < sayings; k++) {
                tried[0] = k;
                tryList(1);
            }
            for (int k = 0; size >= 2 && k < sayings; k++) {
                for (int j = 0; j < sayings; j++) {
                    tried[0] = k;
                    tried[1] = j;
                    if (j != k) {
                        tryList(2);
                    }
                }
            }
            settle();
            done++;
        }

        private void tryList(int size) {
            int right = 0;
            rest.take(learned);
            for (int i = 0; i < size && i < ENTRIES; i++) {
                tellBy(tried[i]);
                right += Math.max(told.sizeWith(fulfilled), told.size() - told.sizeWith(fulfilled));
            }
            right += Math.max(rest.sizeWith(fulfilled), rest.size() - rest.sizeWith(fulfilled));
            if (right > learnedRight) {
                learnedRight = right;
                entries = size;
                System.arraycopy(tried, 0, best, 0, ENTRIES);
            }
        }

        /** Moves the DAYS on which a SAYING tells from the rest to those told. */
        private void tellBy(int k) {
            told.clear();
            if (within(k, 0, SAYINGS - 1)) {
                told.take(rest);
                told.meet(tells[k]);
                rest.leave(tells[k]);
            }
        }

        private void settle() {
            learnedDays = learned.size();
            rest.take(learned);
            for (int i = 0; i < entries && i < ENTRIES; i++) {
                tellBy(best[i]);
                yes[i] = isMostlyTrue(told);
            }
            lastYes = isMostlyTrue(rest);
            judgedDays = judged.size();
            judgedRight = 0;
            rest.take(judged);
            for (int i = 0; i < entries && i < ENTRIES; i++) {
                tellBy(best[i]);
                judgedRight += rightOn(told, yes[i]);
            }
            judgedRight += rightOn(rest, lastYes);
        }

        private boolean isMostlyTrue(Days days) {
            return 2 * days.sizeWith(fulfilled) > days.size();
        }

        private int rightOn(Days days, boolean word) {
            int isTrue = days.sizeWith(fulfilled);
            return word ? isTrue : days.size() - isTrue;
        }

        int entryAt(int i) {
            if (i < 0 || i >= entries || i >= ENTRIES) {
                return NONE;
            }
            return 2 * best[i] + (yes[i] ? 1 : 0);
        }

        int answer(int what) {
            if (!within(what, 0, 5)) {
                return OUTSIDE;
            }
            if (done == 0) {
                return NONE;
            }
            switch (what) {
                case 0: return lastYes ? 1 : 0;
                case 1: return entries;
                case 2: return learnedDays;
                case 3: return learnedRight;
                case 4: return judgedDays;
                default: return judgedRight;
            }
        }
    }

    /** An ALMANAC: the DAYS that it foretells for, and those of them that it says are wet. */
    private static final class Almanac {
        int years = 0;
        final Days told = new Days();
        final Days wet = new Days();

        void clear() {
            told.clear();
            wet.clear();
        }

        int foretoldFor(int n) {
            if (!told.has(n)) {
                return NONE;
            }
            return wet.has(n) ? 1 : 0;
        }

        void put(int n, int w) {
            told.remove(n);
            wet.remove(n);
            if (w != NONE) {
                told.add(n);
            }
            if (w == 1) {
                wet.add(n);
            }
        }

        /** On how many DAYS it is wet. */
        int drawDays(int from, int end, int seed) {
            int x = seed, many = 0;
            for (int n = from; n < end; n++) {
                x = nextSeed(x);
                int w = x / 65536 % 2;
                put(n, w);
                many += w;
            }
            return many;
        }

        /** For how many of the DAYS it foretells then. */
        int copyDays(Almanac model, int from, int end, int stride) {
            int many = 0, step = 0;
            for (int n = from; n < end; n++) {
                step++;
                int w = model.foretoldFor(n);
                if (step == stride) {
                    step = 0;
                    w = w == NONE ? NONE : 1 - w;
                }
                put(n, w);
                if (w != NONE) {
                    many++;
                }
            }
            return many;
        }

        long mixInto(long start) {
            long h = mixed(start, years);
            for (int n = 0; n < DAYS; n++) {
                int w = foretoldFor(n);
                if (w != NONE) {
                    h = mixed(h, 2 * n + w);
                }
            }
            return h;
        }
    }

    /** Two ALMANACS held against the rain of a VALLEY. */
    private static final class Likeness {
        int common = 0;
        int shared = 0;
        int oneWrong = 0;
        int otherWrong = 0;
        private final Days rainKnown = new Days();
        private final Days rainy = new Days();
        private final Days asked = new Days();
        private final Days wrongOfOne = new Days();
        private final Days wrongOfOther = new Days();

        void readRain(Diary diary) {
            diary.findKnown(1 << RAIN, rainKnown);
            diary.findCompared(RAIN, 1, 0, rainy);
        }

        void compare(Almanac one, Almanac other) {
            asked.take(rainKnown);
            asked.meet(one.told);
            asked.meet(other.told);
            findWrong(one, wrongOfOne);
            findWrong(other, wrongOfOther);
            common = asked.size();
            shared = wrongOfOne.sizeWith(wrongOfOther);
            oneWrong = wrongOfOne.size();
            otherWrong = wrongOfOther.size();
        }

        private void findWrong(Almanac almanac, Days out) {
            out.take(almanac.wet);
            out.differ(rainy);
            out.meet(asked);
        }

        boolean reaches(int ratio) {
            return shared * common * 10 > ratio * oneWrong * otherWrong;
        }

        int answer(int what) {
            switch (what) {
                case 0: return common;
                case 1: return shared;
                case 2: return oneWrong;
                default: return otherWrong;
            }
        }
    }
}
