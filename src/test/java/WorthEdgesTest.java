import java.util.function.IntPredicate;

/** The boundary cases of promises 17 to 26, each sentence a run of its own. */
public final class WorthEdgesTest {
    private static final Check CHECK = new Check("WorthEdgesTest");
    private static final int NONE = RedSky.NONE;

    public static void main(String[] args) {
        comparisonsAtTheirNumber();
        termsAndFactors();
        nots();
        brackets();
        openFirst();
        openSecond();
        spanOnSomeOrAll();
        spanAtTheLastDay();
        spanFromEachDay();
        seasonOfMonths();
        seasonOverTheEnd();
        seasonInTheLongYear();
        seasonOfASaint();
        seasonOfAnOpenDay();
        countsCasesRight();
        yearsFromTo();
        monthsFirstAndLast();
        expectedRoundedDown();
        expectedWithoutCases();
        worthBelowAndAbove();
        turnedModuloFour();
        turnedToADateThatIsNotThere();
        turnedBesideTheLeapDay();
        turnedCountsCasesAlone();
        turnedSpanBeginsThere();
        turnedSeasonAndFirstStay();
        chanceNotBelow();
        chanceWithoutCases();
        partedByCases();
        partedByOpenParts();
        partedBySeason();
        oneInAllValleys();
        homeOfThoseWithCases();
        greatestNumbers();
        CHECK.end();
    }

    private static Run run(String name) {
        return new Run(CHECK, name);
    }

    /** On the DAYS from n on: W is 1, 0, or a gap (-) as the first letter tells, R as the second. */
    private static Run keep(Run r, int v, long n, String... days) {
        for (int i = 0; i < days.length; i++) {
            for (int f = 1; f <= 2; f++) {
                char c = days[i].charAt(f - 1);
                r.go("set(" + v + ", " + (n + i) + ", " + f + ", " + (c == '1' ? 1 : 0) + ", " + (c != '-') + ")");
            }
        }
        return r;
    }

    private static void truths(Run r, int k, int n, int first, int second, int season) {
        r.eachDue("truth(" + k + ", 0, " + n + ", ?)", first, second, season);
    }

    private static void tallies(Run r, String call, long counted, long cases, long right, long fulfilled) {
        r.eachDue(call, counted, cases, right, fulfilled);
    }

    // ---- promise 17

    private static void comparisonsAtTheirNumber() {
        int[][] ends = {{0, 3}, {0, 9}, {0, 99}, {-30, 40}};
        for (int f = 0; f < 4; f++) {
            for (int number : new int[] {ends[f][0], ends[f][0] + 1, ends[f][1]}) {
                Run r = run("less, equal, greater");
                for (char sign : new char[] {'<', '=', '>'}) {
                    r.say("SWRT".charAt(f) + "" + sign + number + ":0~" + "!" + "SWRT".charAt(f) + sign + number);
                }
                for (int w = number - 1; w <= number + 1; w++) {
                    if (w < ends[f][0] || w > ends[f][1]) {
                        continue;
                    }
                    r.go("set(0, 700, " + f + ", " + w + ", true)");
                    truths(r, 0, 700, w < number ? 1 : 0, w < number ? 0 : 1, 1);
                    truths(r, 1, 700, w == number ? 1 : 0, w == number ? 0 : 1, 1);
                    truths(r, 2, 700, w > number ? 1 : 0, w > number ? 0 : 1, 1);
                }
            }
        }
    }

    private static void termsAndFactors() {
        Run r = run("of TERMS one at least holds, of FACTORS all");
        r.say("S=1|S=2|S=3:0~S>0", "S>0&S>1&S>2:0~S>0", "S=1|S>1&S<3:0~S>0", "!S=1&!S=2:0~S>0", "!(S=1|S=2):0~S>0",
            "(S=1|S=2)&S=2:0~S>0", "!!S=2:0~S>0");
        int[][] due = {{0, 0, 0, 1, 1, 0, 0}, {1, 0, 1, 0, 0, 0, 0}, {1, 0, 1, 0, 0, 1, 1}, {1, 1, 0, 1, 1, 0, 0}};
        for (int s = 0; s < 4; s++) {
            r.go("set(0, 0, 0, " + s + ", true)");
            for (int k = 0; k < 7; k++) {
                r.due("truth(" + k + ", 0, 0, 0)", due[s][k]);
            }
        }
    }

    private static void nots() {
        Run r = run("each ! turns it over").go("set(0, 0, 0, 1, true)", "set(0, 1, 0, 0, true)");
        for (int i = 0; i < 8; i++) {
            r.say("!".repeat(i) + "S=1:0~" + "!(".repeat(i) + "S=1" + ")".repeat(i));
            for (int n = 0; n < 2; n++) {
                int is = (i + n) % 2 == 0 ? 1 : 0;
                r.due("truth(" + i + ", 0, " + n + ", 0)", is).due("truth(" + i + ", 0, " + n + ", 1)", is);
            }
        }
    }

    /** A CONDITION in both parts, on all 16 DAYS of FIELDS that are 0 or 1. */
    private static void holds(String text, IntPredicate due) {
        Run r = run(text).say(text + ":0~" + text);
        for (int n = 0; n < 16; n++) {
            for (int f = 0; f < 4; f++) {
                r.go("set(0, " + n + ", " + f + ", " + (n >> f & 1) + ", true)");
            }
            r.due("truth(0, 0, " + n + ", 0)", due.test(n) ? 1 : 0).due("truth(0, 0, " + n + ", 1)", due.test(n) ? 1 : 0);
        }
    }

    private static void brackets() {
        IntPredicate s = n -> (n & 1) == 1, w = n -> (n & 2) == 2, r = n -> (n & 4) == 4, t = n -> (n & 8) == 8;
        holds("S=1&(W=1)", s.and(w));
        holds("S=1|(W=1)", s.or(w));
        holds("(S=1)&(W=1)|(R=1)", s.and(w).or(r));
        holds("S=1|W=1&R=1", s.or(w.and(r)));
        holds("S=1&W=1|R=1&T=1", s.and(w).or(r.and(t)));
        holds("S=1&(W=1|R=1)&T=1", s.and(w.or(r)).and(t));
        holds("(S=1|W=1)&(R=1|T=1)", s.or(w).and(r.or(t)));
        holds("S=1|(W=1&(R=1|T=1))", s.or(w.and(r.or(t))));
        holds("!(S=1|W=1)&R=1", s.or(w).negate().and(r));
        holds("!S=1|W=1", s.negate().or(w));
        holds("!S=1&W=1|T=1", s.negate().and(w).or(t));
        holds("!(S=1&!(W=1|!R=1))|T=1", s.and(w.or(r.negate()).negate()).negate().or(t));
        holds("S=1&!!(W=1|R=1)", s.and(w.or(r)));
        holds("!!!(S=1|W=1&R=1)", s.or(w.and(r)).negate());
        holds("((S=1|W=1)|R=1)&T=1", s.or(w).or(r).and(t));
    }

    private static void openFirst() {
        Run r = run("THE FIRST is OPEN, if some FIELD of it is a gap, whatever the others tell");
        r.say("S=1|W=1:0~R>0", "S=1&W=1:0~R>0", "!(S=9|W=9):0~R>0", "S=1:0~R>0");
        r.go("set(0, 0, 0, 1, true)");
        r.due("truth(0, 0, 0, 0)", NONE).due("truth(1, 0, 0, 0)", NONE).due("truth(2, 0, 0, 0)", NONE).due("truth(3, 0, 0, 0)", 1);
        r.go("set(0, 0, 0, 0, true)").due("truth(1, 0, 0, 0)", NONE).go("set(0, 0, 1, 0, true)");
        r.due("truth(0, 0, 0, 0)", 0).due("truth(1, 0, 0, 0)", 0).due("truth(2, 0, 0, 0)", 1);
        r.go("set(0, 0, 0, 0, false)").due("truth(0, 0, 0, 0)", NONE).due("truth(3, 0, 0, 0)", NONE);
        // on that DAY alone
        r.go("set(0, 1, 0, 1, true)", "set(1, 0, 0, 1, true)").due("truth(3, 0, 0, 0)", NONE).due("truth(3, 0, 1, 0)", 1);
        r.due("truth(3, 1, 0, 0)", 1).due("truth(3, 2, 0, 0)", NONE).due("truth(3, 0, 2, 0)", NONE);
    }

    private static void openSecond() {
        Run r = run("THE SECOND is OPEN, if some FIELD of it is a gap on some DAY of the SPAN");
        r.say("S=1:1-3~R>0|T>0", "S=1:1-3^R>0|T>0");
        for (int n = 10; n <= 14; n++) {
            r.go("set(0, " + n + ", 2, 5, true)", "set(0, " + n + ", 3, 5, true)");
        }
        r.due("truth(0, 0, 10, 1)", 1).due("truth(1, 0, 10, 1)", 1);
        for (int n = 10; n <= 14; n++) {
            for (int f = 2; f <= 3; f++) {
                String field = "set(0, " + n + ", " + f + ", 5, ";
                boolean inside = n >= 11 && n <= 13;
                r.go(field + "false)").due("truth(0, 0, 10, 1)", inside ? NONE : 1).due("truth(1, 0, 10, 1)", inside ? NONE : 1);
                r.go(field + "true)");
            }
        }
        r.due("truth(0, 0, 10, 1)", 1).due("truth(0, 0, 10, 0)", NONE);
        // gaps of FIELDS that are not asked for do not matter
        r.due("get(0, 12, 0)", -1000).due("get(0, 12, 1)", -1000);
    }

    private static void spanOnSomeOrAll() {
        Run r = run("~ on some DAY of the SPAN, ^ on all, from the first to the second");
        r.say("S=1:2-4~R>0", "S=1:2-4^R>0", "S=1:3~R>0", "S=1:3^R>0", "S=1:0-9~R>0", "S=1:0-9^R>0");
        for (int n = 20; n <= 29; n++) {
            r.go("set(0, " + n + ", 2, 0, true)");
        }
        for (int n = 20; n <= 29; n++) {
            r.go("set(0, " + n + ", 2, 1, true)").due("truth(0, 0, 20, 1)", n >= 22 && n <= 24 ? 1 : 0);
            r.due("truth(2, 0, 20, 1)", n == 23 ? 1 : 0).due("truth(3, 0, 20, 1)", n == 23 ? 1 : 0);
            r.due("truth(1, 0, 20, 1)", 0).due("truth(4, 0, 20, 1)", 1).due("truth(5, 0, 20, 1)", 0);
            r.go("set(0, " + n + ", 2, 0, true)");
        }
        for (int n = 20; n <= 29; n++) {
            r.go("set(0, " + n + ", 2, 1, true)").due("truth(1, 0, 20, 1)", n >= 24 ? 1 : 0).due("truth(5, 0, 20, 1)", n == 29 ? 1 : 0);
        }
        r.go("set(0, 22, 2, 0, true)").due("truth(1, 0, 20, 1)", 0).due("truth(0, 0, 20, 1)", 1);
    }

    private static void spanAtTheLastDay() {
        Run r = run("OPEN, if a DAY of the SPAN is not there");
        r.say("R=0:0~R>0", "R=0:1~R>0", "R=0:9~R>0", "R=0:0-9~R>0", "R=0:0-1^R>0");
        for (int n = 1450; n <= 1460; n++) {
            r.go("set(0, " + n + ", 2, 9, true)");
        }
        truths(r, 0, 1460, 0, 1, 1);
        truths(r, 1, 1460, 0, NONE, 1);
        truths(r, 1, 1459, 0, 1, 1);
        truths(r, 2, 1451, 0, 1, 1);
        truths(r, 2, 1452, 0, NONE, 1);
        truths(r, 2, 1460, 0, NONE, 1);
        truths(r, 3, 1451, 0, 1, 1);
        truths(r, 3, 1452, 0, NONE, 1);
        truths(r, 4, 1459, 0, 1, 1);
        truths(r, 4, 1460, 0, NONE, 1);
        r.due("cases(0, 0, 3, 3, 0)", 11).due("cases(1, 0, 3, 3, 0)", 10).due("cases(2, 0, 3, 3, 0)", 2).due("cases(3, 0, 3, 3, 0)", 2);
        Run first = run("the first DAY is there").say("R=0:0~R>0", "R=0:1~R>0").go("set(0, 0, 2, 0, true)", "set(0, 1, 2, 1, true)");
        truths(first, 0, 0, 1, 0, 1);
        truths(first, 1, 0, 1, 1, 1);
    }

    /** R of YEAR y as WRITING by this SEED tells it. */
    private static int[] rainWritten(int y, long seed) {
        int[] rain = new int[y == 3 ? 366 : 365];
        long x = seed;
        for (int i = 0; i < rain.length; i++) {
            for (int f = 0; f < 4; f++) {
                x = (x * 1103515245L + 12345L) % 2147483648L;
                if (f == 2) {
                    long z = x / 65536;
                    rain[i] = (int) (z % 3 == 0 ? 0 : z % 100);
                }
            }
        }
        return rain;
    }

    private static void spanFromEachDay() {
        int[] rain = new int[1461];
        for (int y = 0; y < 4; y++) {
            System.arraycopy(rainWritten(y, 7 + y), 0, rain, 365 * y, y == 3 ? 366 : 365);
        }
        for (int from = 0; from <= 9; from++) {
            for (int to = from; to <= 9; to += 3) {
                Run r = run("the SPAN of each DAY").go("write(0, 0, 7, 0)", "write(0, 1, 8, 0)", "write(0, 2, 9, 0)", "write(0, 3, 10, 0)");
                r.say("R>49:" + from + "-" + to + "~R>49", "R>49:" + from + "-" + to + "^R>9");
                int[] counted = new int[4], cases = new int[4], some = new int[4], all = new int[4];
                for (int n = 0; n + to < 1461; n++) {
                    int y = Math.min(n / 365, 3), over = 0, above = 0;
                    for (int i = from; i <= to; i++) {
                        over += rain[n + i] > 49 ? 1 : 0;
                        above += rain[n + i] > 9 ? 1 : 0;
                    }
                    counted[y]++;
                    cases[y] += rain[n] > 49 ? 1 : 0;
                    some[y] += rain[n] > 49 && over > 0 ? 1 : 0;
                    all[y] += rain[n] > 49 && above == to - from + 1 ? 1 : 0;
                }
                for (int y = 0; y < 4; y++) {
                    String years = "0, " + y + ", " + y + ", ";
                    r.due("cases(0, " + years + "0)", counted[y]).due("cases(0, " + years + "1)", cases[y]);
                    r.due("cases(0, " + years + "2)", some[y]).due("cases(1, " + years + "2)", all[y]);
                }
            }
        }
        for (int n = 50; n < 140; n++) {
            Run r = run("the DAY of the rain alone").say("R=0:1~R>0", "R=0:9~R>0").go("write(0, 0, 0, 1)");
            for (int i = n; i < n + 12; i++) {
                r.go("set(0, " + i + ", 2, " + (i == n + 10 ? 1 : 0) + ", true)");
            }
            r.due("truth(0, 0, " + (n + 9) + ", 1)", 1).due("truth(0, 0, " + (n + 8) + ", 1)", 0);
            r.due("truth(1, 0, " + (n + 1) + ", 1)", 1).due("truth(1, 0, " + n + ", 1)", 0).due("truth(1, 0, " + (n + 2) + ", 1)", 0);
        }
    }

    private static void inMonths(String season, int y, boolean... is) {
        Run r = run("SEASON " + season).say("S=1:0~R>0@" + season);
        for (int m = 1; m <= 12; m++) {
            long first = r.ask("day(" + y + ", " + m + ", 1)");
            long last = m == 12 ? first + 30 : r.ask("day(" + y + ", " + (m + 1) + ", 1)") - 1;
            r.due("truth(0, 0, " + first + ", 2)", is[m - 1] ? 1 : 0).due("truth(0, 2, " + last + ", 2)", is[m - 1] ? 1 : 0);
        }
    }

    private static void seasonOfMonths() {
        boolean[] march = new boolean[12], fromMarch = new boolean[12], all = new boolean[12], first = new boolean[12];
        boolean[] last = new boolean[12];
        march[2] = true;
        first[0] = true;
        last[11] = true;
        for (int m = 1; m <= 12; m++) {
            all[m - 1] = true;
            fromMarch[m - 1] = m >= 3 && m <= 9;
        }
        for (int y = 0; y < 4; y++) {
            inMonths("3-3", y, march);
            inMonths("3-9", y, fromMarch);
            inMonths("1-12", y, all);
            inMonths("1-1", y, first);
            inMonths("12-12", y, last);
        }
    }

    private static void seasonOverTheEnd() {
        for (int from = 1; from <= 12; from++) {
            for (int to = 1; to < from; to++) {
                boolean[] is = new boolean[12];
                for (int m = 1; m <= 12; m++) {
                    is[m - 1] = m >= from || m <= to;
                }
                inMonths(from + "-" + to, from % 4, is);
            }
        }
    }

    private static void seasonInTheLongYear() {
        Run r = run("the DATE that one YEAR alone has").say("S=1:0~R>0@2-2", "S=1:0~R>0@3-1", "S=1:0~R>0@#0").go("saint(0, 2, 29, 0, 0)");
        r.due("truth(0, 0, 1154, 2)", 1).due("truth(0, 0, 1155, 2)", 0).due("truth(0, 0, 1125, 2)", 0).due("truth(0, 0, 1126, 2)", 1);
        r.due("truth(1, 0, 1154, 2)", 0).due("truth(1, 0, 1155, 2)", 1).due("truth(2, 0, 1154, 2)", 1).due("truth(2, 0, 59, 2)", 0);
        r.due("truth(0, 0, 58, 2)", 1).due("truth(0, 0, 59, 2)", 0);
    }

    private static void seasonOfASaint() {
        Run r = run("that SAINT's DAY alone, of all YEARS, as he is now").say("S=1:0~R>0@#0", "S=1:0~R>0@#7");
        for (int n = 0; n <= 1460; n += 365) {
            int is = n < 1460 ? 1 : 0;
            r.due("truth(0, 0, " + n + ", 2)", is).due("truth(1, 1, " + n + ", 2)", is).due("truth(0, 0, " + (n == 0 ? 1 : n - 1) + ", 2)", 0);
        }
        r.go("saint(7, 12, 31, 0, 0)").due("truth(1, 0, 0, 2)", 0).due("truth(1, 0, 364, 2)", 1).due("truth(1, 0, 1460, 2)", 1);
        r.due("truth(0, 0, 0, 2)", 1).go("first(0)").due("truth(1, 0, 364, 2)", 0).due("truth(1, 0, 365, 2)", 1);
    }

    private static void seasonOfAnOpenDay() {
        Run r = run("a DAY may be in its SEASON, though both parts are OPEN, and out of it, though none is").say("W=1:0~R>0@1-1");
        truths(r, 0, 0, NONE, NONE, 1);
        keep(r, 0, 31, "11");
        truths(r, 0, 31, 1, 1, 0);
        tallies(r, "cases(0, 0, 0, 3, ?)", 0, 0, 0, 0);
    }

    // ---- promises 18 and 19

    private static void countsCasesRight() {
        String[] days = {"11", "10", "01", "00", "-1", "1-", "--"};
        long[][] due = {{1, 1, 1, 1}, {1, 1, 0, 0}, {1, 0, 0, 1}, {1, 0, 0, 0}, {0, 0, 0, 0}, {0, 0, 0, 0}, {0, 0, 0, 0}};
        for (int i = 0; i < days.length; i++) {
            Run r = keep(run("a DAY " + days[i]).say("W=1:0~R>0"), 0, 100, days[i]);
            r.eachDue("cases(0, 0, 0, 0, ?)", due[i]).eachDue("month(0, 0, 4, ?)", due[i]);
        }
    }

    private static void yearsFromTo() {
        Run r = run("YEARS from a to b, both of them").say("W=1:0~R>0");
        for (int n : new int[] {0, 364, 365, 729, 730, 1094, 1095, 1460}) {
            keep(r, 1, n, "11");
        }
        for (int a = 0; a < 4; a++) {
            for (int b = a; b < 4; b++) {
                int days = 2 * (b - a + 1);
                tallies(r, "cases(0, 1, " + a + ", " + b + ", ?)", days, days, days, days);
            }
        }
        keep(r, 1, 365, "10");
        tallies(r, "cases(0, 1, 0, 0, ?)", 2, 2, 2, 2);
        tallies(r, "cases(0, 1, 1, 1, ?)", 2, 2, 1, 1);
        keep(r, 1, 364, "01");
        tallies(r, "cases(0, 1, 0, 0, ?)", 2, 1, 1, 2);
        tallies(r, "cases(0, 0, 0, 3, ?)", 0, 0, 0, 0);
        Run all = run("all DAYS of the DIARY").say("W>-1:0~R>-1", "W>-1:9~R>-1", "W>9:0~R>99");
        all.go("write(2, 0, 1, 0)", "write(2, 1, 2, 0)", "write(2, 2, 3, 0)", "write(2, 3, 4, 0)");
        tallies(all, "cases(0, 2, 0, 3, ?)", 1461, 1461, 1461, 1461);
        tallies(all, "cases(1, 2, 0, 3, ?)", 1452, 1452, 1452, 1452);
        tallies(all, "cases(2, 2, 0, 3, ?)", 1461, 0, 0, 0);
        tallies(all, "cases(1, 2, 0, 0, ?)", 365, 365, 365, 365);
        tallies(all, "cases(1, 2, 3, 3, ?)", 357, 357, 357, 357);
    }

    private static void monthsFirstAndLast() {
        Run r = run("a MONTH's DAYS of all YEARS").say("W=1:0~R>0", "W=1:0~R>0@12-1");
        for (int y = 0; y < 4; y++) {
            keep(r, 0, 365 * y, "11");
            keep(r, 0, 365 * y + 30, "10", "01");
            keep(r, 0, 365 * (y + 1) - 1, "00");
        }
        tallies(r, "month(0, 0, 1, ?)", 8, 8, 4, 4);
        tallies(r, "month(0, 0, 2, ?)", 4, 0, 0, 4);
        tallies(r, "month(0, 0, 11, ?)", 0, 0, 0, 0);
        tallies(r, "month(0, 0, 12, ?)", 4, 0, 0, 0);
        tallies(r, "month(1, 0, 1, ?)", 8, 8, 4, 4);
        tallies(r, "month(1, 0, 2, ?)", 0, 0, 0, 0);
        tallies(r, "month(0, 1, 1, ?)", 0, 0, 0, 0);
        Run leap = run("2/29 is of MONTH 2").say("W=1:0~R>0").go("day(3, 2, 29)");
        keep(leap, 0, 1154, "11", "10");
        tallies(leap, "month(0, 0, 2, ?)", 1, 1, 1, 1);
        tallies(leap, "month(0, 0, 3, ?)", 1, 1, 0, 0);
        Run span = run("the MONTH is that of the DAY, not of its SPAN").say("W=1:1~R>0");
        keep(span, 0, 30, "1-", "-1");
        tallies(span, "month(0, 0, 1, ?)", 1, 1, 1, 1);
        tallies(span, "month(0, 0, 2, ?)", 0, 0, 0, 0);
    }

    // ---- promises 20 and 21

    private static void expectedRoundedDown() {
        Run r = run("rounded down each, not their sum").say("W=1:0~R>0");
        // each of three MONTHS: 1 CASE, 3 COUNT, 2 are TRUE: 666 and 2 of 3
        for (int m : new int[] {0, 31, 334}) {
            keep(r, 0, m, "11", "01", "00");
        }
        r.due("expected(0, 0)", 3 * 666).due("worth(0, 0)", 3000 - 1998);
        Run over = run("a MONTH is of all YEARS").say("W=1:0~R>0");
        keep(over, 0, 0, "11", "10");
        keep(over, 0, 365, "01", "00", "00");
        // 2 CASES, 2 of 5 are TRUE
        over.due("expected(0, 0)", 800).due("worth(0, 0)", 200);
        Run apart = run("MONTHS apart").say("W=1:0~R>0");
        keep(apart, 0, 30, "11", "10");
        apart.due("expected(0, 0)", 1000).due("worth(0, 0)", 0);
    }

    private static void expectedWithoutCases() {
        Run r = run("MONTHS without CASES: 0").say("W=1:0~R>0").due("expected(0, 0)", 0).due("worth(0, 0)", 0);
        keep(r, 0, 0, "01", "01", "-1", "1-").due("expected(0, 0)", 0).due("worth(0, 0)", 0);
        keep(r, 0, 40, "10").due("expected(0, 0)", 0).due("worth(0, 0)", 0);
        keep(r, 0, 41, "01").due("expected(0, 0)", 500).due("worth(0, 0)", -500);
        Run s = run("what is out of SEASON does not COUNT").say("W=1:0~R>0@1-1");
        keep(s, 0, 30, "11", "01", "11").due("expected(0, 0)", 1000).due("worth(0, 0)", 0);
    }

    private static void worthBelowAndAbove() {
        Run r = run("1000 times RIGHT, less EXPECTED").say("W=1:0~R>0");
        keep(r, 0, 0, "11", "00").due("worth(0, 0)", 1000 - 500);
        keep(r, 1, 0, "10", "01").due("worth(0, 1)", -500);
        keep(r, 2, 0, "11", "01").due("worth(0, 2)", 0).due("expected(0, 2)", 1000);
    }

    // ---- promises 22 and 23

    private static void turnedModuloFour() {
        int[] date = {120, 485, 850, 1216};
        for (int from = 0; from < 4; from++) {
            for (int t = 1; t < 4; t++) {
                Run r = run("from YEAR y and k modulo 4").say("W=1:0~R>0");
                keep(r, 0, date[from], "1-");
                keep(r, 0, date[(from + t) % 4], (from + t) % 4 == from ? "11" : "-1");
                for (int by = 1; by < 4; by++) {
                    r.due("turned(0, 0, " + by + ", 0)", by == t ? 1 : 0).due("turned(0, 0, " + by + ", 1)", by == t ? 1 : 0);
                }
                r.due("turned(0, 0, 0, 0)", RedSky.OUTSIDE).due("turned(0, 0, 4, 0)", RedSky.OUTSIDE);
            }
        }
    }

    private static void turnedToADateThatIsNotThere() {
        for (int f = 0; f < 4; f++) {
            int longYear = (4 - f) % 4;
            Run r = run("OPEN, if that DATE is not there").say("W=1:0~R>0").go("first(" + f + ")");
            long leap = r.ask("day(" + longYear + ", 2, 29)");
            for (int y = 0; y < 4; y++) {
                keep(r, 0, r.ask("day(" + y + ", 2, 28)"), "-1", y == longYear ? "11" : "-1", "-1");
            }
            for (int t = 1; t < 4; t++) {
                r.eachDue("turned(0, 0, " + t + ", ?)", 0, 0);
            }
            r.due("cases(0, 0, 0, 3, 1)", 1);
            // the DATES on both sides of it are there
            keep(r, 0, leap - 1, "1-", "--", "1-");
            for (int t = 1; t < 4; t++) {
                r.eachDue("turned(0, 0, " + t + ", ?)", 2, 2);
            }
        }
    }

    private static void turnedBesideTheLeapDay() {
        for (int f = 0; f < 4; f++) {
            int longYear = (4 - f) % 4;
            for (int t = 1; t < 4; t++) {
                Run r = run("3/1 is turned to 3/1, not to 2/29").say("W=1:0~R>0").go("first(" + f + ")");
                long here = r.ask("day(" + (longYear + 4 - t) % 4 + ", 3, 1)"), there = r.ask("day(" + longYear + ", 3, 1)");
                keep(r, 0, here, "1-");
                keep(r, 0, there - 1, "-1", "--").eachDue("turned(0, 0, " + t + ", ?)", 0, 0);
                keep(r, 0, there - 1, "-1", "-0").eachDue("turned(0, 0, " + t + ", ?)", 0, 1);
                keep(r, 0, there - 1, "-0", "-1").eachDue("turned(0, 0, " + t + ", ?)", 1, 1);
                keep(r, 0, there - 1, "--", "-1").eachDue("turned(0, 0, " + t + ", ?)", 1, 1);
            }
        }
    }

    private static void turnedCountsCasesAlone() {
        Run r = run("DAYS that COUNT, but on which THE FIRST is FALSE, are no CASES").say("W=1:0~R>0");
        keep(r, 0, 150, "10", "01", "00", "11");
        keep(r, 0, 515, "-1", "-1", "-0", "-0");
        r.eachDue("turned(0, 0, 1, ?)", 1, 2);
        // 1 of 2 in both, though of the DAYS that COUNT it would be 1 of 4 and 1 of 3
        r.due("chance(0, 0)", 3);
        keep(r, 0, 152, "00", "11", "01", "01", "01");
        keep(r, 0, 517, "--", "-0");
        r.eachDue("turned(0, 0, 1, ?)", 1, 2).due("chance(0, 0)", 3);
        keep(r, 0, 153, "01", "11");
        keep(r, 0, 518, "-0", "-0");
        r.eachDue("turned(0, 0, 1, ?)", 1, 2).due("chance(0, 0)", 3);
        // now 2 of 3, turned 1 of 2 of which more DAYS COUNT not
        keep(r, 0, 155, "11");
        r.eachDue("turned(0, 0, 1, ?)", 1, 2).due("chance(0, 0)", 2);
    }

    private static void turnedSpanBeginsThere() {
        Run r = run("its SPAN begins there, and goes on over the end of that YEAR").say("W=1:1~R>0", "W=1:0-1^R>0");
        keep(r, 0, 364, "1-");
        keep(r, 0, 729, "-1", "-1");
        r.eachDue("turned(0, 0, 1, ?)", 1, 1).eachDue("turned(1, 0, 1, ?)", 1, 1).eachDue("turned(0, 0, 2, ?)", 0, 0);
        Run over = run("beyond the last DAY it is OPEN").say("W=1:1~R>0", "W=1:0~R>0");
        keep(over, 0, 1094, "1-");
        keep(over, 0, 1460, "-1");
        keep(over, 0, 0, "-1");
        over.eachDue("turned(0, 0, 1, ?)", 0, 0).eachDue("turned(1, 0, 1, ?)", 1, 1);
        Run leap = run("over 2/29, if it is there").say("W=1:1~R>0");
        keep(leap, 0, 58, "1-");
        keep(leap, 0, 1153, "--", "-1", "-0");
        leap.eachDue("turned(0, 0, 3, ?)", 1, 1);
        keep(leap, 0, 1153, "1-", "--", "--");
        keep(leap, 0, 58, "--", "-1");
        leap.eachDue("turned(0, 0, 1, ?)", 1, 1);
    }

    private static void turnedSeasonAndFirstStay() {
        Run r = run("SEASON and THE FIRST are those of the DAY").say("W=1:0~R>0@#0").go("saint(0, 6, 1, 1, 3)");
        keep(r, 0, 151, "1-");
        keep(r, 0, 516, "01");
        // 6/1 of YEAR 0 is in SEASON, 6/1 of YEAR 1 is not
        r.eachDue("turned(0, 0, 1, ?)", 1, 1).due("truth(0, 0, 516, 2)", 0);
        r.go("saint(0, 6, 1, 0, 3)").eachDue("turned(0, 0, 1, ?)", 0, 0);
        Run first = run("OPEN there does not matter for THE FIRST").say("W=1:0~R>0");
        keep(first, 0, 10, "1-").eachDue("turned(0, 0, 1, ?)", 0, 0);
        keep(first, 0, 375, "-0").eachDue("turned(0, 0, 1, ?)", 0, 1);
        keep(first, 0, 375, "-1").eachDue("turned(0, 0, 1, ?)", 1, 1);
        keep(first, 0, 10, "-1").eachDue("turned(0, 0, 1, ?)", 0, 0);
    }

    /** DATES of May in YEAR 0 with CASES, some RIGHT; in the other YEARS THE SECOND alone. */
    private static Run shares(String now, String one, String two, String three) {
        Run r = run("shares " + now + " " + one + " " + two + " " + three).say("W=1:0~R>0");
        String[] all = {now, one, two, three};
        int[] start = {120, 485, 850, 1216};
        for (int y = 0; y < 4; y++) {
            for (int i = 0; i < all[y].length(); i++) {
                keep(r, 0, start[y] + i, (y == 0 ? "1" : "-") + all[y].charAt(i));
            }
        }
        return r;
    }

    private static void chanceNotBelow() {
        shares("10", "10", "01", "11").due("chance(0, 0)", 3);
        shares("10", "00", "01", "11").due("chance(0, 0)", 2);
        shares("10", "00", "00", "11").due("chance(0, 0)", 1);
        shares("10", "00", "00", "00").due("chance(0, 0)", 0);
        // half is not below 2 of 4, 1 of 3 is
        shares("1100", "10--", "100-", "0-1-").due("chance(0, 0)", 2);
        shares("110", "1010", "10--", "11--").due("chance(0, 0)", 2);
        shares("111", "111", "110", "1--").due("chance(0, 0)", 2);
        shares("000", "000", "0--", "100").due("chance(0, 0)", 3);
    }

    private static void chanceWithoutCases() {
        run("no CASES at all").say("W=1:0~R>0").due("chance(0, 0)", 3);
        shares("--", "00", "10", "11").due("chance(0, 0)", 3);
        shares("11", "--", "00", "--").due("chance(0, 0)", 2);
        shares("11", "--", "--", "--").due("chance(0, 0)", 3);
        shares("1", "-", "0", "0").due("chance(0, 0)", 1);
    }

    // ---- promises 24 and 25

    private static void partedByCases() {
        String[] texts = {"W=1:0~R>0", "W=1:0~R=0", "W=0:0~R>0", "W=0:0~R=0", "W>-1:0~R>0", "W>1:0~R>0"};
        // on a DAY "11", and on a DAY "01": whether these and the first are PARTED
        int[][] due = {{0, 1, 1, 1, 0, 1}, {0, 0, 1, 1, 1, 0}};
        for (int i = 0; i < 2; i++) {
            Run r = run("one is a CASE, or both and one alone is RIGHT").say(texts);
            keep(r, 0, 5, i == 0 ? "11" : "01");
            for (int k = 0; k < texts.length; k++) {
                r.due("parted(0, " + k + ", 0)", due[i][k]).due("parted(" + k + ", 0, 0)", due[i][k]);
                r.due("parted(" + k + ", " + k + ", 0)", 0).due("parted(0, " + k + ", 1)", 0);
                r.due("one(0, " + k + ")", 1 - due[i][k]).due("one(" + k + ", 0)", 1 - due[i][k]);
            }
        }
        Run wrong = run("both are CASES, none is RIGHT").say("W=1:0~R>0", "W=1:0~R>1");
        keep(wrong, 0, 5, "10").due("parted(0, 1, 0)", 0);
        keep(wrong, 0, 6, "11").due("parted(0, 1, 0)", 1);
        keep(wrong, 0, 1460, "11").due("parted(0, 1, 0)", 2);
        keep(wrong, 0, 0, "11").due("parted(0, 1, 0)", 3).due("parted(1, 0, 0)", 3);
    }

    private static void partedByOpenParts() {
        Run r = run("no part of either is OPEN").say("S=1:0~T>0", "W=1:0~R>0");
        r.go("set(0, 7, 0, 1, true)", "set(0, 7, 1, 0, true)", "set(0, 7, 2, 0, true)", "set(0, 7, 3, 0, true)");
        r.due("parted(0, 1, 0)", 1);
        for (int f = 0; f < 4; f++) {
            r.go("set(0, 7, " + f + ", 0, false)").due("parted(0, 1, 0)", 0).due("parted(1, 0, 0)", 0).due("one(0, 1)", 1);
            r.go("set(0, 7, " + f + ", " + (f == 0 ? 1 : 0) + ", true)").due("parted(0, 1, 0)", 1);
        }
        Run span = run("nor beyond the last DAY").say("W=1:0~R>0", "W=0:1~R>0");
        keep(span, 0, 1459, "11", "11").due("parted(0, 1, 0)", 1);
        keep(span, 0, 1459, "-1").due("parted(0, 1, 0)", 0);
    }

    private static void partedBySeason() {
        Run r = run("a DAY out of SEASON is no CASE").say("W=1:0~R>0", "W=1:0~R>0@1-1", "W=1:0~R>0@2-12", "W=0:0~R>0@2-2");
        keep(r, 0, 30, "11").due("parted(0, 1, 0)", 0).due("parted(0, 2, 0)", 1).due("parted(1, 2, 0)", 1).due("parted(2, 3, 0)", 0);
        keep(r, 0, 31, "10").due("parted(0, 1, 0)", 1).due("parted(0, 2, 0)", 1).due("parted(1, 2, 0)", 2).due("parted(2, 3, 0)", 1);
        keep(r, 0, 31, "01").due("parted(0, 1, 0)", 0).due("parted(2, 3, 0)", 1).due("parted(1, 3, 0)", 2);
    }

    private static void oneInAllValleys() {
        for (int v = 0; v < 3; v++) {
            Run r = run("PARTED on no DAY of any VALLEY").say("W=1:0~R>0", "W>0:0~R=1").due("one(0, 1)", 1);
            r.go("set(" + v + ", 1460, 1, 2, true)", "set(" + v + ", 1460, 2, 0, true)").due("one(0, 1)", 0).due("one(1, 0)", 0);
            r.due("one(0, 0)", 1).due("one(1, 1)", 1).go("set(" + v + ", 1460, 1, 1, true)").due("one(0, 1)", 1);
        }
    }

    // ---- promise 26

    private static void homeOfThoseWithCases() {
        Run r = run("NONE: no CASES anywhere").say("W=1:0~R>0").due("home(0)", NONE);
        keep(r, 0, 0, "01", "00").due("home(0)", NONE);
        // a VALLEY without CASES is worth 0, more than -500, but is none of those
        keep(r, 2, 0, "10", "01").due("home(0)", 2).due("worth(0, 2)", -500).due("worth(0, 0)", 0);
        keep(r, 1, 0, "10", "01").due("home(0)", 1);
        keep(r, 1, 0, "10", "01", "01").due("worth(0, 1)", -666).due("home(0)", 2);
        keep(r, 0, 0, "10", "01", "01", "01").due("worth(0, 0)", -750).due("home(0)", 2);
        keep(r, 0, 0, "10", "00", "00", "00").due("worth(0, 0)", 0).due("home(0)", 0);
        keep(r, 1, 0, "11", "00", "00").due("worth(0, 1)", 667).due("home(0)", 1);
        keep(r, 2, 0, "11", "00", "00").due("worth(0, 2)", 667).due("home(0)", 1);
        keep(r, 0, 0, "11", "00", "00", "--").due("worth(0, 0)", 667).due("home(0)", 0);
    }

    private static void greatestNumbers() {
        Run r = run("all DAYS are CASES").say("T>-31:0~T<41", "T>-31:0~T>40", "T>-31:0-9^T>-31");
        r.go("write(1, 0, 1, 0)", "write(1, 1, 2, 0)", "write(1, 2, 3, 0)", "write(1, 3, 4, 0)");
        r.due("expected(0, 1)", 1461000).due("worth(0, 1)", 0).due("expected(1, 1)", 0).due("worth(1, 1)", 0);
        r.due("expected(2, 1)", 1452000).due("chance(0, 1)", 3).due("chance(1, 1)", 3).due("turned(0, 1, 2, 0)", 1460);
        r.due("home(0)", 1).due("parted(0, 1, 1)", 1461).due("parted(0, 2, 1)", 0).due("month(0, 1, 2, 1)", 113);
    }
}
