/** The boundary cases of promises 30 to 38, each sentence a run of its own. */
public final class AlmanacEdgesTest {
    private static final Check CHECK = new Check("AlmanacEdgesTest");
    private static final int NONE = RedSky.NONE;

    public static void main(String[] args) {
        agesAtTheEnds();
        drawnSeeds();
        drawnForAYear();
        drawnOver();
        strides();
        strideInTheLongYear();
        copiedNothing();
        copiedYearAlone();
        foretoldAtTheEnds();
        wrongByRain();
        wrongAtTheEnds();
        commonDays();
        sharedWrongDays();
        alikeAboveNotEqual();
        alikeRatioAtTheEnds();
        alikeWithoutWrongDays();
        sourceOfLessAge();
        sourceSharesMost();
        sourceIsNotItself();
        springs();
        springOfLongChain();
        greatestNumbers();
        CHECK.end();
    }

    private static Run run(String name) {
        return new Run(CHECK, name);
    }

    /** What an ALMANAC foretells from DAY n on: 1, 0, or - for nothing. */
    private static Run foretell(Run r, int a, int n, String days) {
        for (int i = 0; i < days.length(); i++) {
            char c = days.charAt(i);
            r.go("foretell(" + a + ", " + (n + i) + ", " + (c == '-' ? NONE : c - '0') + ")");
        }
        return r;
    }

    /** What an ALMANAC foretells is this, and stays. */
    private static Run foretells(Run r, int a, int n, String days) {
        for (int i = 0; i < days.length(); i++) {
            char c = days.charAt(i);
            int want = c == '-' ? NONE : c - '0';
            r.due("foretell(" + a + ", " + (n + i) + ", " + want + ")", want);
        }
        return r;
    }

    private static Run rain(Run r, int v, int n, String days) {
        for (int i = 0; i < days.length(); i++) {
            char c = days.charAt(i);
            r.go("set(" + v + ", " + (n + i) + ", 2, " + (c == '-' ? 0 : c - '0') + ", " + (c != '-') + ")");
        }
        return r;
    }

    // ---- promise 30

    private static void agesAtTheEnds() {
        for (int a = 0; a < 6; a++) {
            String age = "age(" + a + ", ";
            run("AGE is 0 to 9999, 0 at first: what it was").due(age + "9999)", 0).due(age + "0)", 9999).due(age + "1)", 0)
                .stays(age + "-1)", RedSky.OUTSIDE).stays(age + "10000)", RedSky.OUTSIDE).due(age + "9998)", 1)
                .due("age(" + (a + 1) % 6 + ", 0)", 0).due(age + "5)", 9998);
        }
    }

    // ---- promise 31

    private static void drawnSeeds() {
        for (long seed : new long[] {0, 1, 65535, 65536, 2147483646, 2147483647}) {
            Run r = run("x goes on as above, and it is x by 65536, rounded down, modulo 2");
            StringBuilder days = new StringBuilder();
            long x = seed;
            int wet = 0;
            for (int i = 0; i < 365; i++) {
                x = (x * 1103515245L + 12345L) % 2147483648L;
                long w = x / 65536 % 2;
                wet += w;
                days.append(w);
            }
            r.due("draw(5, 2, " + seed + ")", wet);
            foretells(r, 5, 730, days.toString());
            r.due("foretell(5, 729, -1)", NONE).due("foretell(5, 1095, -1)", NONE).due("foretell(4, 730, -1)", NONE);
        }
    }

    private static void drawnForAYear() {
        int[] start = {0, 365, 730, 1095, 1461};
        for (int y = 0; y < 4; y++) {
            Run r = run("that YEAR alone: on how many DAYS of it");
            for (int i = 0; i < 4; i++) {
                foretell(r, 0, start[i], "1");
                foretell(r, 0, start[i + 1] - 1, "1");
            }
            long wet = r.ask("draw(0, " + y + ", 7)");
            r.due("draw(1, " + y + ", 7)", wet).due("draw(0, " + y + ", 7)", wet);
            for (int i = 0; i < 4; i++) {
                if (i != y) {
                    foretells(r, 0, start[i], "1-");
                    foretells(r, 0, start[i + 1] - 2, "-1");
                }
            }
            for (int n : new int[] {start[y], start[y] + 1, start[y + 1] - 2, start[y + 1] - 1}) {
                CHECK.holds("each DAY of YEAR " + y + " is drawn: " + n, r.ask("foretell(0, " + n + ", 1)") != NONE);
            }
        }
        run("the long YEAR has a DAY more").due("copy(1, 0, 3, 1)", 0).go("draw(0, 3, 9)").due("copy(1, 0, 3, 1)", 366)
            .go("draw(0, 0, 9)").due("copy(1, 0, 0, 1)", 365).go("first(0)", "draw(0, 0, 9)").due("copy(1, 0, 0, 1)", 366);
    }

    private static void drawnOver() {
        Run r = run("what was foretold is gone").go("draw(2, 1, 11)");
        long first = r.ask("digest()");
        r.go("draw(2, 1, 12)");
        CHECK.holds("another SEED draws another YEAR", r.ask("digest()") != first);
        foretell(r, 2, 365, "-01-").go("draw(2, 1, 11)").due("digest()", first);
    }

    // ---- promise 32

    private static void strides() {
        String days = "110100-11001";
        Run r = foretell(run("each k-th of them the other way round"), 0, 365, days);
        r.due("copy(1, 0, 1, 1)", 11);
        foretells(r, 1, 365, "001011-00110");
        r.due("copy(1, 0, 1, 2)", 11);
        foretells(r, 1, 365, "100001-01100");
        r.due("copy(1, 0, 1, 3)", 11);
        foretells(r, 1, 365, "111101-10000");
        r.due("copy(1, 0, 1, 4)", 11);
        foretells(r, 1, 365, "110000-01000");
        r.due("copy(1, 0, 1, 12)", 11);
        foretells(r, 1, 365, "110100-11000");
        r.due("copy(1, 0, 1, 13)", 11);
        foretells(r, 1, 365, days);
        // the 7th is NONE, and stays
        r.due("copy(1, 0, 1, 7)", 11);
        foretells(r, 1, 365, days);
        foretells(r, 0, 365, days);
    }

    private static void strideInTheLongYear() {
        for (int f = 0; f < 4; f++) {
            for (int y = 0; y < 4; y++) {
                boolean isLong = (f + y) % 4 == 0;
                Run r = run("the last DAY is the 365th, or the 366th").go("first(" + f + ")");
                long last = r.ask("day(" + y + ", 12, 31)");
                foretell(r, 0, (int) last - 1, "11");
                r.due("copy(1, 0, " + y + ", 365)", 2);
                foretells(r, 1, (int) last - 1, isLong ? "01" : "10");
                r.due("copy(1, 0, " + y + ", 366)", 2);
                foretells(r, 1, (int) last - 1, isLong ? "10" : "11");
                r.due("copy(1, 0, " + y + ", 367)", 2).due("copy(1, 0, " + y + ", 400)", 2);
                foretells(r, 1, (int) last - 1, "11");
            }
        }
        run("a stride beyond").stays("copy(1, 0, 0, 0)", RedSky.OUTSIDE).stays("copy(1, 0, 0, 401)", RedSky.OUTSIDE)
            .stays("copy(1, 1, 0, 1)", RedSky.OUTSIDE).stays("copy(1, 6, 0, 0)", RedSky.UNKNOWN).stays("copy(1, 1, 4, 1)", RedSky.UNKNOWN);
    }

    private static void copiedNothing() {
        Run r = foretell(run("where the other foretells nothing, nothing is foretold"), 3, 0, "1010101");
        r.due("copy(3, 2, 0, 1)", 0);
        foretells(r, 3, 0, "-------");
        foretell(r, 2, 1, "1");
        foretell(r, 3, 0, "000");
        r.due("copy(3, 2, 0, 400)", 1);
        foretells(r, 3, 0, "-1-");
    }

    private static void copiedYearAlone() {
        int[] start = {0, 365, 730, 1095, 1461};
        for (int y = 0; y < 4; y++) {
            Run r = run("that YEAR alone: on how many DAYS of it");
            for (int i = 0; i < 4; i++) {
                foretell(r, 0, start[i], "11");
                foretell(r, 0, start[i + 1] - 2, "11");
                foretell(r, 1, start[i], "00");
                foretell(r, 1, start[i + 1] - 2, "00");
            }
            r.due("copy(1, 0, " + y + ", 400)", 4);
            for (int i = 0; i < 4; i++) {
                foretells(r, 1, start[i], i == y ? "11" : "00");
                foretells(r, 1, start[i + 1] - 2, i == y ? "11" : "00");
                foretells(r, 0, start[i], "11");
            }
        }
        Run both = run("two YEARS, each counted from its first DAY");
        for (int n : new int[] {0, 1, 2, 365, 366, 367}) {
            foretell(both, 0, n, "1");
        }
        both.due("copy(1, 0, 0, 3)", 3).due("copy(1, 0, 1, 2)", 3);
        foretells(both, 1, 0, "110");
        foretells(both, 1, 365, "101");
        both.due("copy(0, 1, 0, 3)", 3);
        foretells(both, 0, 0, "111");
    }

    // ---- promise 33

    private static void foretoldAtTheEnds() {
        for (int a = 0; a < 6; a += 5) {
            for (int n = 0; n <= 1460; n += 1460) {
                String day = "foretell(" + a + ", " + n + ", ";
                run("it becomes NONE, 0, 1: what it was").due(day + "0)", NONE).due(day + "1)", 0).due(day + "-1)", 1).due(day + "1)", NONE)
                    .stays(day + "2)", RedSky.OUTSIDE).stays(day + "-2)", RedSky.OUTSIDE).due(day + "0)", 1).due(day + "0)", 0)
                    .due(day + "-1)", 0).due(day + "-1)", NONE);
            }
        }
        run("each has a place of its own").go("foretell(0, 1460, 1)", "foretell(1, 0, 0)").due("foretell(0, 0, -1)", NONE)
            .due("foretell(1, 1460, -1)", NONE).due("foretell(0, 1459, -1)", NONE).due("foretell(1, 1, -1)", NONE)
            .due("foretell(0, 1460, -1)", 1).due("foretell(1, 0, -1)", 0);
    }

    // ---- promise 34

    private static void wrongByRain() {
        String[] told = {"1", "0", "-"}, rain = {"0", "1", "9", "-"};
        int[][] due = {{1, 0, 0, 0}, {0, 1, 1, 0}, {0, 0, 0, 0}};
        for (int i = 0; i < 3; i++) {
            for (int j = 0; j < 4; j++) {
                Run r = run("told " + told[i] + ", rain " + rain[j]);
                foretell(rain(r, 1, 500, rain[j]), 4, 500, told[i]);
                r.due("wrong(4, 1)", due[i][j]).due("wrong(4, 0)", 0).due("wrong(3, 1)", 0);
            }
        }
        run("rain of 99").go("set(0, 3, 2, 99, true)", "foretell(0, 3, 0)").due("wrong(0, 0)", 1).go("foretell(0, 3, 1)").due("wrong(0, 0)", 0);
        run("other FIELDS do not matter").go("set(0, 3, 0, 0, true)", "set(0, 3, 1, 0, true)", "set(0, 3, 3, 0, true)")
            .go("foretell(0, 3, 1)").due("wrong(0, 0)", 0);
    }

    private static void wrongAtTheEnds() {
        Run r = run("the first and the last DAY");
        foretell(rain(r, 2, 0, "0"), 5, 0, "1");
        r.due("wrong(5, 2)", 1);
        foretell(rain(r, 2, 1460, "1"), 5, 1460, "0");
        r.due("wrong(5, 2)", 2).due("wrong(5, 1)", 0);
        r.go("set(2, 1460, 2, 0, false)").due("wrong(5, 2)", 1).go("foretell(5, 0, -1)").due("wrong(5, 2)", 0);
    }

    // ---- promise 35

    private static void commonDays() {
        Run r = run("COMMON: both foretell and R is no gap");
        String[] told = {"1", "0", "-"};
        int n = 0;
        for (String one : told) {
            for (String other : told) {
                foretell(foretell(rain(r, 0, n, "0-"), 0, n, one + one), 1, n, other + other);
                n += 2;
            }
        }
        r.due("shared(0, 1, 0, 0)", 4).due("shared(0, 1, 0, 1)", 1).due("shared(0, 1, 0, 2)", 2).due("shared(0, 1, 0, 3)", 2);
        r.due("shared(0, 0, 0, 0)", 6).due("shared(0, 1, 1, 0)", 0).due("shared(0, 2, 0, 0)", 0).due("shared(2, 2, 0, 0)", 0);
    }

    private static void sharedWrongDays() {
        Run r = rain(run("SHARED, and WRONG of either, on COMMON DAYS alone"), 1, 1454, "0011--0");
        foretell(r, 3, 1454, "1100111");
        foretell(r, 5, 1454, "101-0-1");
        // COMMON 1454, 1455, 1456, 1460; wrong is 3 on all four, 5 on the first and the last
        r.eachDue("shared(3, 5, 1, ?)", 4, 2, 4, 2).eachDue("shared(5, 3, 1, ?)", 4, 2, 2, 4).eachDue("shared(3, 3, 1, ?)", 5, 5, 5, 5);
        r.due("wrong(3, 1)", 5).due("wrong(5, 1)", 2).stays("shared(3, 5, 1, 4)", RedSky.OUTSIDE).stays("shared(3, 5, 1, -1)", RedSky.OUTSIDE);
    }

    // ---- promise 36

    private static void alikeAboveNotEqual() {
        Run r = rain(run("above, not equal"), 0, 0, "000000");
        foretell(foretell(r, 0, 0, "111000"), 1, 0, "110110");
        // SHARED 2, COMMON 6: 120; WRONG 3 and 4: 12 times the RATIO
        r.due("alike(0, 1, 0, 9)", 1).due("alike(0, 1, 0, 10)", 0).due("alike(0, 1, 0, 11)", 0);
        r.due("alike(1, 0, 0, 9)", 1).due("alike(1, 0, 0, 10)", 0).due("alike(0, 1, 1, 1)", 0);
        r.due("source(1, 0, 9)", NONE).go("age(1, 1)").due("source(1, 0, 9)", 0).due("source(1, 0, 10)", NONE);
    }

    private static void alikeRatioAtTheEnds() {
        Run r = rain(run("a RATIO is 1 to 100"), 0, 0, "00000000000");
        foretell(foretell(r, 0, 0, "10000000000"), 1, 0, "10000000000");
        // SHARED 1, COMMON 11: 110; WRONG 1 and 1
        r.due("alike(0, 1, 0, 100)", 1).due("alike(0, 1, 0, 1)", 1).stays("alike(0, 1, 0, 0)", RedSky.OUTSIDE);
        r.stays("alike(0, 1, 0, 101)", RedSky.OUTSIDE).go("age(0, 9999)", "foretell(1, 10, -1)").due("alike(0, 1, 0, 100)", 0);
        r.due("alike(0, 1, 0, 99)", 1).due("source(0, 0, 99)", 1).due("source(0, 0, 100)", NONE).due("spring(0, 0, 99)", 1);
        r.due("spring(0, 0, 100)", 0).stays("source(0, 0, 101)", RedSky.OUTSIDE).stays("spring(0, 0, 101)", RedSky.OUTSIDE);
        r.stays("source(0, 0, 0)", RedSky.OUTSIDE).stays("spring(0, 0, 0)", RedSky.OUTSIDE);
        foretell(r, 1, 10, "0");
        r.due("source(0, 0, 100)", 1).due("spring(0, 0, 100)", 1);
    }

    private static void alikeWithoutWrongDays() {
        run("nothing foretold").due("alike(0, 1, 0, 1)", 0).due("alike(0, 0, 0, 1)", 0).due("alike(0, 1, 0, 100)", 0);
        Run r = rain(run("none is wrong"), 0, 0, "0101");
        foretell(foretell(r, 0, 0, "0101"), 1, 0, "0101");
        r.due("alike(0, 1, 0, 1)", 0).go("age(0, 2)").due("source(0, 0, 1)", NONE).due("spring(0, 0, 1)", 0);
        Run s = rain(run("none is SHARED"), 0, 0, "0000");
        foretell(foretell(s, 0, 0, "1100"), 1, 0, "0011");
        s.due("alike(0, 1, 0, 1)", 0).due("shared(0, 1, 0, 1)", 0);
    }

    // ---- promise 37

    private static Run threeAlike(String name) {
        Run r = rain(run(name), 0, 0, "00000000");
        for (int a = 1; a <= 5; a += 2) {
            foretell(r, a, 0, "11000000");
        }
        return r;
    }

    private static void sourceOfLessAge() {
        threeAlike("of less AGE, not of the same").due("source(3, 0, 10)", NONE).due("spring(3, 0, 10)", 3)
            .go("age(3, 1)").due("source(3, 0, 10)", 1).go("age(1, 1)").due("source(3, 0, 10)", 5)
            .go("age(5, 2)").due("source(3, 0, 10)", NONE).due("source(5, 0, 10)", 1).due("source(1, 0, 10)", NONE)
            .go("age(5, 9999)", "age(1, 9998)", "age(3, 9999)").due("source(5, 0, 10)", 1).due("source(3, 0, 10)", 1)
            .due("source(1, 0, 10)", NONE).due("source(5, 1, 10)", NONE);
    }

    private static void sourceSharesMost() {
        Run r = rain(run("with which it SHARES most, of like ones the least"), 0, 0, "0000000000");
        foretell(r, 0, 0, "1111000000");
        foretell(r, 1, 0, "1100000000");
        foretell(r, 2, 0, "1110000000");
        foretell(r, 4, 0, "0111000000");
        r.go("age(0, 5)").due("source(0, 0, 1)", 2).due("spring(0, 0, 1)", 2);
        foretell(r, 4, 0, "1");
        r.due("source(0, 0, 1)", 4).go("age(4, 5)").due("source(0, 0, 1)", 2).go("age(2, 5)").due("source(0, 0, 1)", 1);
        r.go("age(1, 5)").due("source(0, 0, 1)", NONE);
        Run ratio = rain(run("it must be ALIKE"), 0, 0, "0000000000");
        foretell(ratio, 5, 0, "1111000000");
        foretell(ratio, 0, 0, "1111111111");
        foretell(ratio, 3, 0, "1110000000");
        // 0: 4 times 10 times 10 is above RATIO times 4 times 10 below 10; 3: 3 times 100 above 12 times it below 25
        ratio.go("age(5, 5)").due("source(5, 0, 9)", 0).due("source(5, 0, 10)", 3).due("source(5, 0, 24)", 3).due("source(5, 0, 25)", NONE);
    }

    private static void sourceIsNotItself() {
        Run r = rain(run("it is not of less AGE than itself"), 0, 0, "0000");
        foretell(r, 2, 0, "1000").due("alike(2, 2, 0, 39)", 1).due("source(2, 0, 39)", NONE).due("spring(2, 0, 39)", 2);
        r.go("age(2, 9999)").due("source(2, 0, 39)", NONE).due("spring(2, 0, 39)", 2);
    }

    // ---- promise 38

    private static void springs() {
        Run r = threeAlike("the SOURCE's SOURCE; itself, if it has none").go("age(5, 3)", "age(3, 2)", "age(1, 1)");
        // 5 SHARES as much with 3 as with 1, and 1 is the least
        r.due("source(5, 0, 10)", 1).due("spring(5, 0, 10)", 1).due("spring(1, 0, 10)", 1).due("spring(0, 0, 10)", 0);
        foretell(r, 5, 2, "1");
        foretell(r, 3, 2, "1");
        r.due("source(5, 0, 10)", 3).due("source(3, 0, 10)", 1).due("source(1, 0, 10)", NONE).due("spring(5, 0, 10)", 1);
        r.due("spring(3, 0, 10)", 1).due("spring(5, 2, 10)", 5).due("spring(5, 0, 100)", 5);
    }

    private static void springOfLongChain() {
        Run r = rain(run("a chain of all six"), 0, 0, "00000000000000000000");
        int[] chain = {3, 0, 5, 1, 4, 2};
        for (int i = 0; i < 6; i++) {
            foretell(r, chain[i], 0, "0".repeat(2 * i) + "11111" + "0".repeat(15 - 2 * i));
            r.go("age(" + chain[i] + ", " + (60 - 10 * i) + ")");
        }
        // neighbours SHARE 3 of 5, the next but one 1
        for (int i = 0; i < 6; i++) {
            r.due("source(" + chain[i] + ", 0, 10)", i < 5 ? chain[i + 1] : NONE).due("spring(" + chain[i] + ", 0, 10)", 2);
        }
        r.due("alike(3, 5, 0, 10)", 0).due("spring(3, 0, 24)", 3).due("spring(3, 0, 23)", 2);
    }

    private static void greatestNumbers() {
        Run r = run("all DAYS are COMMON and wrong");
        for (int y = 0; y < 4; y++) {
            r.go("write(0, " + y + ", " + y + ", 0)", "draw(0, " + y + ", 1)", "copy(1, 0, " + y + ", 1)");
        }
        long right = r.ask("wrong(1, 0)");
        r.due("wrong(0, 0)", 1461 - right).eachDue("shared(0, 1, 0, ?)", 1461, 0, 1461 - right, right).due("alike(0, 1, 0, 1)", 0);
        r.eachDue("shared(1, 1, 0, ?)", 1461, right, right, right).due("alike(1, 1, 0, 1)", 1).due("alike(1, 1, 0, 100)", 0);
    }
}
