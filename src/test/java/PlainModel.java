import java.util.ArrayList;
import java.util.List;

/**
 * The document's terms once more, day by day and with the whole Java library, in the plainest form and
 * without a line of the class under test: the tests hold the two against each other.
 */
final class PlainModel {
    static final int NONE = -1, UNKNOWN = -101, OUTSIDE = -102, STATE = -103, FULL = -104;
    private static final int[] LOW = {0, 0, 0, -30}, HIGH = {3, 9, 99, 40};

    private int first = 1;
    private final int[][] saints = new int[8][];
    private final Integer[][][] diaries = new Integer[3][1461][4];
    private String page = "";
    private final List<PlainSaying> sayings = new ArrayList<>();
    private final int[] ages = new int[6];
    private final int[][] almanacs = new int[6][1461];
    private int learned = 0;
    private int[] listAnswers = null;
    private List<Integer> listEntries = new ArrayList<>();
    private int datesFor = -1;
    private List<int[]> allDates = new ArrayList<>();
    private final java.util.Map<String, Integer> dayNumbers = new java.util.HashMap<>();

    PlainModel() {
        for (int s = 0; s < 8; s++) {
            saints[s] = new int[] {1, 1, 0, 0};
        }
        for (int[] row : almanacs) {
            java.util.Arrays.fill(row, NONE);
        }
    }

    // ---- the calendar

    private static boolean in(int x, int low, int high) {
        return low <= x && x <= high;
    }

    private int length(int y, int m) {
        if (m == 2) {
            return (first + y) % 4 == 0 ? 29 : 28;
        }
        return m == 4 || m == 6 || m == 9 || m == 11 ? 30 : 31;
    }

    /** All DAYS as {YEAR, MONTH, DATE}, made anew when FIRST changes. */
    private List<int[]> dates() {
        if (datesFor == first) {
            return allDates;
        }
        datesFor = first;
        List<int[]> all = new ArrayList<>();
        for (int y = 0; y < 4; y++) {
            for (int m = 1; m <= 12; m++) {
                for (int d = 1; d <= length(y, m); d++) {
                    all.add(new int[] {y, m, d});
                }
            }
        }
        allDates = all;
        dayNumbers.clear();
        for (int n = 0; n < all.size(); n++) {
            dayNumbers.put(java.util.Arrays.toString(all.get(n)), n);
        }
        return all;
    }

    int first(int f) {
        if (!in(f, 0, 3)) {
            return OUTSIDE;
        }
        int was = first;
        first = f;
        for (Integer[][] diary : diaries) {
            for (Integer[] day : diary) {
                java.util.Arrays.fill(day, null);
            }
        }
        for (int[] row : almanacs) {
            java.util.Arrays.fill(row, NONE);
        }
        return was;
    }

    int day(int y, int m, int d) {
        if (!in(y, 0, 3) || !in(m, 1, 12) || !in(d, 1, 31)) {
            return OUTSIDE;
        }
        dates();
        return dayNumbers.getOrDefault(java.util.Arrays.toString(new int[] {y, m, d}), NONE);
    }

    int date(int n, int what) {
        if (!in(n, 0, 1460)) {
            return UNKNOWN;
        }
        return in(what, 0, 2) ? dates().get(n)[what] : OUTSIDE;
    }

    int saint(int saint, int m, int d, int y, int k) {
        if (!in(saint, 0, 7)) {
            return UNKNOWN;
        }
        if (!in(m, 1, 12) || !in(d, 1, 31) || !in(y, 0, 3) || !in(k, -30, 30)) {
            return OUTSIDE;
        }
        saints[saint] = new int[] {m, d, y, k};
        return 1;
    }

    int feast(int saint, int y) {
        if (!in(saint, 0, 7)) {
            return UNKNOWN;
        }
        if (!in(y, 0, 3)) {
            return OUTSIDE;
        }
        int n = day(y, saints[saint][0], saints[saint][1]);
        if (n == NONE) {
            return NONE;
        }
        if (y >= saints[saint][2]) {
            n += saints[saint][3];
        }
        return in(n, 0, 1460) ? n : NONE;
    }

    // ---- diaries

    private static long next(long x) {
        return (1103515245L * x + 12345L) % (1L << 31);
    }

    int write(int v, int y, int x, int g) {
        if (!in(v, 0, 2) || !in(y, 0, 3)) {
            return UNKNOWN;
        }
        if (x < 0 || !in(g, 0, 1000)) {
            return OUTSIDE;
        }
        long seed = x;
        int gaps = 0;
        List<int[]> all = dates();
        for (int n = 0; n < 1461; n++) {
            if (all.get(n)[0] != y) {
                continue;
            }
            for (int f = 0; f < 4; f++) {
                seed = next(seed);
                int z = (int) (seed / 65536);
                int[] values = {z % 4, z % 10, z % 3 == 0 ? 0 : z % 100, z % 71 - 30};
                boolean gap = g > 0 && seed / 256 % g == 0;
                diaries[v][n][f] = gap ? null : Integer.valueOf(values[f]);
                gaps += gap ? 1 : 0;
            }
        }
        return gaps;
    }

    int set(int v, int n, int f, int w, boolean is) {
        if (!in(v, 0, 2) || !in(n, 0, 1460) || !in(f, 0, 3)) {
            return UNKNOWN;
        }
        if (!in(w, LOW[f], HIGH[f])) {
            return OUTSIDE;
        }
        Integer was = diaries[v][n][f];
        diaries[v][n][f] = is ? Integer.valueOf(w) : null;
        return was == null ? 0 : 1;
    }

    int get(int v, int n, int f) {
        if (!in(v, 0, 2) || !in(n, 0, 1460) || !in(f, 0, 3)) {
            return -10101;
        }
        return diaries[v][n][f] == null ? -1000 : diaries[v][n][f];
    }

    int kept(int v, int y) {
        if (!in(v, 0, 2) || !in(y, 0, 3)) {
            return UNKNOWN;
        }
        int sum = 0;
        List<int[]> all = dates();
        for (int n = 0; n < 1461; n++) {
            for (int f = 0; f < 4; f++) {
                sum += all.get(n)[0] == y && diaries[v][n][f] != null ? 1 : 0;
            }
        }
        return sum;
    }

    // ---- sayings

    int letters(long w) {
        StringBuilder more = new StringBuilder();
        boolean ended = false;
        for (int i = 0; i < 8; i++) {
            byte b = (byte) (w >> (8 * i));
            if (b < 0 || b > 126 || ended && b != 0) {
                return OUTSIDE;
            }
            ended = b == 0;
            if (!ended) {
                more.append((char) b);
            }
        }
        if (page.length() + more.length() > 80) {
            return FULL;
        }
        page += more;
        return page.length();
    }

    int blank() {
        int had = page.length();
        page = "";
        return had;
    }

    int say() {
        PlainSaying read = PlainSaying.read(page);
        if (read == null) {
            return STATE;
        }
        if (sayings.size() == 8) {
            return FULL;
        }
        sayings.add(read);
        page = "";
        return sayings.size() - 1;
    }

    int good() {
        for (int n = page.length(); n > 0; n--) {
            if (PlainSaying.begins(page.substring(0, n))) {
                return n;
            }
        }
        return 0;
    }

    int asks(int k, int what) {
        if (!in(k, 0, sayings.size() - 1)) {
            return UNKNOWN;
        }
        return in(what, 0, 11) ? sayings.get(k).asks(what) : OUTSIDE;
    }

    int forget() {
        int were = sayings.size();
        sayings.clear();
        return were;
    }

    // ---- worth

    private int firstOn(PlainSaying s, int v, int n) {
        return s.first.truth(diaries[v][n]);
    }

    private int secondOn(PlainSaying s, int v, int n) {
        boolean some = false, all = true;
        for (int i = s.from; i <= s.to; i++) {
            if (!in(n + i, 0, 1460) || s.second.truth(diaries[v][n + i]) == NONE) {
                return NONE;
            }
            boolean is = s.second.truth(diaries[v][n + i]) == 1;
            some |= is;
            all &= is;
        }
        return (s.onAll ? all : some) ? 1 : 0;
    }

    private boolean inSeason(PlainSaying s, int n, List<int[]> dates) {
        if (s.saint != NONE) {
            for (int y = 0; y < 4; y++) {
                if (feast(s.saint, y) == n) {
                    return true;
                }
            }
            return false;
        }
        if (s.fromMonth == NONE) {
            return true;
        }
        for (int m = s.fromMonth;; m = m % 12 + 1) {
            if (dates.get(n)[1] == m) {
                return true;
            }
            if (m == s.toMonth) {
                return false;
            }
        }
    }

    int truth(int k, int v, int n, int side) {
        if (!in(k, 0, sayings.size() - 1) || !in(v, 0, 2) || !in(n, 0, 1460)) {
            return UNKNOWN;
        }
        PlainSaying s = sayings.get(k);
        switch (side) {
            case 0: return firstOn(s, v, n);
            case 1: return secondOn(s, v, n);
            case 2: return inSeason(s, n, dates()) ? 1 : 0;
            default: return OUTSIDE;
        }
    }

    /** COUNT, CASES, RIGHT, COUNT and THE SECOND TRUE, of YEARS a to b and MONTHS c to d, TURNED by t. */
    private int[] tally(PlainSaying s, int v, int[] years, int[] months, int t) {
        int[] sums = new int[4];
        List<int[]> dates = dates();
        for (int n = 0; n < 1461; n++) {
            int[] at = dates.get(n);
            if (!in(at[0], years[0], years[1]) || !in(at[1], months[0], months[1]) || !inSeason(s, n, dates)) {
                continue;
            }
            int there = t == 0 ? n : day((at[0] + t) % 4, at[1], at[2]);
            int one = firstOn(s, v, n), two = there == NONE ? NONE : secondOn(s, v, there);
            if (one == NONE || two == NONE) {
                continue;
            }
            sums[0]++;
            sums[1] += one;
            sums[2] += one * two;
            sums[3] += two;
        }
        return sums;
    }

    private int[] tally(PlainSaying s, int v, int t) {
        return tally(s, v, new int[] {0, 3}, new int[] {1, 12}, t);
    }

    int cases(int k, int v, int a, int b, int what) {
        if (!in(k, 0, sayings.size() - 1) || !in(v, 0, 2)) {
            return UNKNOWN;
        }
        if (!in(a, 0, 3) || !in(b, a, 3) || !in(what, 0, 3)) {
            return OUTSIDE;
        }
        return tally(sayings.get(k), v, new int[] {a, b}, new int[] {1, 12}, 0)[what];
    }

    int month(int k, int v, int m, int what) {
        if (!in(k, 0, sayings.size() - 1) || !in(v, 0, 2)) {
            return UNKNOWN;
        }
        if (!in(m, 1, 12) || !in(what, 0, 3)) {
            return OUTSIDE;
        }
        return tally(sayings.get(k), v, new int[] {0, 3}, new int[] {m, m}, 0)[what];
    }

    int expected(int k, int v) {
        if (!in(k, 0, sayings.size() - 1) || !in(v, 0, 2)) {
            return UNKNOWN;
        }
        int sum = 0;
        for (int m = 1; m <= 12; m++) {
            if (month(k, v, m, 1) > 0) {
                sum += month(k, v, m, 1) * 1000 * month(k, v, m, 3) / month(k, v, m, 0);
            }
        }
        return sum;
    }

    int worth(int k, int v) {
        if (!in(k, 0, sayings.size() - 1) || !in(v, 0, 2)) {
            return -100000001;
        }
        return 1000 * cases(k, v, 0, 3, 2) - expected(k, v);
    }

    int turned(int k, int v, int t, int what) {
        if (!in(k, 0, sayings.size() - 1) || !in(v, 0, 2)) {
            return UNKNOWN;
        }
        if (!in(t, 1, 3) || !in(what, 0, 1)) {
            return OUTSIDE;
        }
        return tally(sayings.get(k), v, t)[2 - what];
    }

    int chance(int k, int v) {
        if (!in(k, 0, sayings.size() - 1) || !in(v, 0, 2)) {
            return UNKNOWN;
        }
        int[] now = tally(sayings.get(k), v, 0);
        int many = 0;
        for (int t = 1; t <= 3; t++) {
            int[] then = tally(sayings.get(k), v, t);
            if (now[1] == 0 || then[1] == 0 || 1.0 * then[2] / then[1] >= 1.0 * now[2] / now[1]) {
                many++;
            }
        }
        return many;
    }

    int parted(int k, int j, int v) {
        if (!in(k, 0, sayings.size() - 1) || !in(j, 0, sayings.size() - 1) || !in(v, 0, 2)) {
            return UNKNOWN;
        }
        PlainSaying s = sayings.get(k), r = sayings.get(j);
        List<int[]> dates = dates();
        int many = 0;
        for (int n = 0; n < 1461; n++) {
            int s1 = firstOn(s, v, n), s2 = secondOn(s, v, n), r1 = firstOn(r, v, n), r2 = secondOn(r, v, n);
            if (s1 == NONE || s2 == NONE || r1 == NONE || r2 == NONE) {
                continue;
            }
            boolean sCase = s1 == 1 && inSeason(s, n, dates), rCase = r1 == 1 && inSeason(r, n, dates);
            if (sCase != rCase || sCase && rCase && s2 != r2) {
                many++;
            }
        }
        return many;
    }

    int one(int k, int j) {
        if (!in(k, 0, sayings.size() - 1) || !in(j, 0, sayings.size() - 1)) {
            return UNKNOWN;
        }
        return parted(k, j, 0) + parted(k, j, 1) + parted(k, j, 2) == 0 ? 1 : 0;
    }

    int home(int k) {
        if (!in(k, 0, sayings.size() - 1)) {
            return UNKNOWN;
        }
        int best = NONE;
        for (int v = 2; v >= 0; v--) {
            if (cases(k, v, 0, 3, 1) > 0 && (best == NONE || worth(k, v) >= worth(k, best))) {
                best = v;
            }
        }
        return best;
    }

    // ---- lists

    int learn(int v, int target, int size, int years) {
        if (!in(v, 0, 2) || !in(target, 0, sayings.size() - 1)) {
            return UNKNOWN;
        }
        if (!in(size, 0, 2) || !in(years, 0, 15)) {
            return OUTSIDE;
        }
        if (learned == 12) {
            return STATE;
        }
        learned++;
        int[] seconds = new int[1461];
        boolean[][] tells = new boolean[sayings.size()][1461];
        for (int n = 0; n < 1461; n++) {
            seconds[n] = secondOn(sayings.get(target), v, n);
            for (int k = 0; k < sayings.size(); k++) {
                tells[k][n] = firstOn(sayings.get(k), v, n) == 1 && inSeason(sayings.get(k), n, dates());
            }
        }
        int most = NONE;
        for (List<Integer> candidate : candidates(size)) {
            int[] words = words(candidate, tells, seconds, years);
            int[] on = judge(candidate, words, tells, seconds, years);
            if (on[1] > most) {
                most = on[1];
                listEntries = new ArrayList<>();
                for (int i = 0; i < candidate.size(); i++) {
                    listEntries.add(2 * candidate.get(i) + words[i]);
                }
                int[] off = judge(candidate, words, tells, seconds, 15 - years);
                listAnswers = new int[] {words[candidate.size()], candidate.size(), on[0], on[1], off[0], off[1]};
            }
        }
        return most;
    }

    private List<List<Integer>> candidates(int size) {
        List<List<Integer>> all = new ArrayList<>();
        all.add(List.of());
        for (int k = 0; size > 0 && k < sayings.size(); k++) {
            all.add(List.of(k));
        }
        for (int k = 0; size > 1 && k < sayings.size(); k++) {
            for (int j = 0; j < sayings.size(); j++) {
                if (j != k) {
                    all.add(List.of(k, j));
                }
            }
        }
        return all;
    }

    /** Which ENTRY tells on a DAY; as many as there are ENTRIES: the last word. */
    private static int teller(List<Integer> entries, boolean[][] tells, int n) {
        int i = 0;
        while (i < entries.size() && !tells[entries.get(i)][n]) {
            i++;
        }
        return i;
    }

    private int[] words(List<Integer> entries, boolean[][] tells, int[] seconds, int years) {
        int[] isTrue = new int[3], isFalse = new int[3];
        for (int n = 0; n < 1461; n++) {
            if ((years >> dates().get(n)[0] & 1) == 1 && seconds[n] != NONE) {
                int i = teller(entries, tells, n);
                isTrue[i] += seconds[n];
                isFalse[i] += 1 - seconds[n];
            }
        }
        int[] words = new int[3];
        for (int i = 0; i < 3; i++) {
            words[i] = isTrue[i] > isFalse[i] ? 1 : 0;
        }
        return words;
    }

    private int[] judge(List<Integer> entries, int[] words, boolean[][] tells, int[] seconds, int years) {
        int days = 0, right = 0;
        for (int n = 0; n < 1461; n++) {
            if ((years >> dates().get(n)[0] & 1) == 1 && seconds[n] != NONE) {
                days++;
                right += words[teller(entries, tells, n)] == seconds[n] ? 1 : 0;
            }
        }
        return new int[] {days, right};
    }

    int entry(int i) {
        return in(i, 0, listEntries.size() - 1) ? listEntries.get(i) : NONE;
    }

    int list(int what) {
        if (!in(what, 0, 5)) {
            return OUTSIDE;
        }
        return listAnswers == null ? NONE : listAnswers[what];
    }

    // ---- almanacs

    int age(int a, int g) {
        if (!in(a, 0, 5)) {
            return UNKNOWN;
        }
        if (!in(g, 0, 9999)) {
            return OUTSIDE;
        }
        int was = ages[a];
        ages[a] = g;
        return was;
    }

    int draw(int a, int y, int x) {
        if (!in(a, 0, 5) || !in(y, 0, 3)) {
            return UNKNOWN;
        }
        if (x < 0) {
            return OUTSIDE;
        }
        long seed = x;
        int wet = 0;
        List<int[]> dates = dates();
        for (int n = 0; n < 1461; n++) {
            if (dates.get(n)[0] == y) {
                seed = next(seed);
                almanacs[a][n] = (int) (seed / 65536 % 2);
                wet += almanacs[a][n];
            }
        }
        return wet;
    }

    int copy(int a, int b, int y, int stride) {
        if (!in(a, 0, 5) || !in(b, 0, 5) || !in(y, 0, 3)) {
            return UNKNOWN;
        }
        if (!in(stride, 1, 400) || a == b) {
            return OUTSIDE;
        }
        int many = 0, i = 0;
        List<int[]> dates = dates();
        for (int n = 0; n < 1461; n++) {
            if (dates.get(n)[0] == y) {
                i++;
                int w = almanacs[b][n];
                almanacs[a][n] = w == NONE ? NONE : i % stride == 0 ? 1 - w : w;
                many += w == NONE ? 0 : 1;
            }
        }
        return many;
    }

    int foretell(int a, int n, int w) {
        if (!in(a, 0, 5) || !in(n, 0, 1460)) {
            return UNKNOWN;
        }
        if (!in(w, -1, 1)) {
            return OUTSIDE;
        }
        int was = almanacs[a][n];
        almanacs[a][n] = w;
        return was;
    }

    private boolean isWrong(int a, int v, int n) {
        Integer rain = diaries[v][n][2];
        int w = almanacs[a][n];
        return rain != null && (w == 1 && rain == 0 || w == 0 && rain > 0);
    }

    int wrong(int a, int v) {
        if (!in(a, 0, 5) || !in(v, 0, 2)) {
            return UNKNOWN;
        }
        int many = 0;
        for (int n = 0; n < 1461; n++) {
            many += isWrong(a, v, n) ? 1 : 0;
        }
        return many;
    }

    int shared(int a, int b, int v, int what) {
        if (!in(a, 0, 5) || !in(b, 0, 5) || !in(v, 0, 2)) {
            return UNKNOWN;
        }
        int[] sums = new int[4];
        for (int n = 0; n < 1461; n++) {
            if (almanacs[a][n] == NONE || almanacs[b][n] == NONE || diaries[v][n][2] == null) {
                continue;
            }
            sums[0]++;
            sums[1] += isWrong(a, v, n) && isWrong(b, v, n) ? 1 : 0;
            sums[2] += isWrong(a, v, n) ? 1 : 0;
            sums[3] += isWrong(b, v, n) ? 1 : 0;
        }
        return in(what, 0, 3) ? sums[what] : OUTSIDE;
    }

    int alike(int a, int b, int v, int ratio) {
        if (!in(a, 0, 5) || !in(b, 0, 5) || !in(v, 0, 2)) {
            return UNKNOWN;
        }
        if (!in(ratio, 1, 100)) {
            return OUTSIDE;
        }
        long left = 10L * shared(a, b, v, 1) * shared(a, b, v, 0);
        return left > (long) ratio * shared(a, b, v, 2) * shared(a, b, v, 3) ? 1 : 0;
    }

    int source(int a, int v, int ratio) {
        if (!in(a, 0, 5) || !in(v, 0, 2)) {
            return UNKNOWN;
        }
        if (!in(ratio, 1, 100)) {
            return OUTSIDE;
        }
        int best = NONE;
        for (int b = 5; b >= 0; b--) {
            if (ages[b] < ages[a] && alike(a, b, v, ratio) == 1
                && (best == NONE || shared(a, b, v, 1) >= shared(a, best, v, 1))) {
                best = b;
            }
        }
        return best;
    }

    int spring(int a, int v, int ratio) {
        int ahead = source(a, v, ratio);
        return ahead == NONE ? a : ahead < NONE ? ahead : spring(ahead, v, ratio);
    }

    // ---- what is told

    int count(int what) {
        return in(what, 0, 3) ? new int[] {sayings.size(), page.length(), first, learned}[what] : OUTSIDE;
    }

    long digest() {
        List<Integer> numbers = new ArrayList<>();
        numbers.add(first);
        for (int[] saint : saints) {
            for (int it : saint) {
                numbers.add(it);
            }
        }
        for (int v = 0; v < 3; v++) {
            for (int n = 0; n < 1461; n++) {
                for (int f = 0; f < 4; f++) {
                    if (diaries[v][n][f] != null) {
                        numbers.add(2048 * n + 256 * f + diaries[v][n][f]);
                    }
                }
            }
        }
        for (char c : page.toCharArray()) {
            numbers.add((int) c);
        }
        for (int k = 0; k < sayings.size(); k++) {
            for (int what = 0; what <= 11; what++) {
                numbers.add(asks(k, what));
            }
        }
        for (int a = 0; a < 6; a++) {
            numbers.add(ages[a]);
            for (int n = 0; n < 1461; n++) {
                if (almanacs[a][n] != NONE) {
                    numbers.add(2 * n + almanacs[a][n]);
                }
            }
        }
        numbers.add(count(3));
        long h = 199;
        for (int it : numbers) {
            h = 31 * h + it;
        }
        return h;
    }
}
