/** Promises 17 to 26: truth, cases, month, expected, worth, turned, chance, parted, one, home. */
public final class WorthTest {
    private static final Check CHECK = new Check("WorthTest");
    private static final int S = 0, W = 1, R = 2, T = 3;

    public static void main(String[] args) {
        comparisons();
        openParts();
        spans();
        seasons();
        casesOfYearsAndMonths();
        expectedAndWorth();
        turnedYears();
        turnedLeapDay();
        chances();
        partedDays();
        homes();
        refusals();
        CHECK.end();
    }

    private static void comparisons() {
        RedSky x = new RedSky();
        String[] texts = {"T<-1", "T=-1", "T>-1", "!T=-1", "T<0&T>-2", "T<-1|T>-1", "T<0|T<0&T>5", "!(T<0&T<5)"};
        int[][] due = {{1, 0, 0}, {0, 1, 0}, {0, 0, 1}, {1, 0, 1}, {0, 1, 0}, {1, 0, 1}, {1, 1, 0}, {0, 0, 1}};
        for (int n = 0; n < 3; n++) {
            x.set(0, n, T, n - 2, true);
        }
        for (int k = 0; k < texts.length; k++) {
            CHECK.due("say " + texts[k], Check.say(x, texts[k] + ":0~" + texts[k]), k);
            for (int n = 0; n < 3; n++) {
                CHECK.due(texts[k] + " first on " + n, x.truth(k, 0, n, 0), due[k][n]);
                CHECK.due(texts[k] + " second on " + n, x.truth(k, 0, n, 1), due[k][n]);
            }
        }
    }

    private static void openParts() {
        RedSky x = new RedSky();
        Check.say(x, "S=1|W=1:0~R>0|T>0");
        Check.say(x, "S<99:0~R>-1");
        CHECK.due("all gaps", x.truth(0, 0, 4, 0), RedSky.NONE);
        x.set(0, 4, S, 1, true);
        CHECK.due("one gap, though the other holds", x.truth(0, 0, 4, 0), RedSky.NONE);
        CHECK.due("gaps of others do not matter", x.truth(1, 0, 4, 0), 1);
        x.set(0, 4, W, 0, true);
        CHECK.due("no gap", x.truth(0, 0, 4, 0), 1);
        CHECK.due("another VALLEY", x.truth(0, 1, 4, 0), RedSky.NONE);
        x.set(0, 4, R, 1, true);
        CHECK.due("one gap of the second", x.truth(0, 0, 4, 1), RedSky.NONE);
        CHECK.due("no gap of the second", x.truth(1, 0, 4, 1), 1);
        x.set(0, 4, T, 0, true);
        CHECK.due("second", x.truth(0, 0, 4, 1), 1);
        x.set(0, 4, W, 0, false);
        CHECK.due("a gap again", x.truth(0, 0, 4, 0), RedSky.NONE);
    }

    private static void spans() {
        RedSky x = new RedSky();
        for (int n = 60; n < 69; n++) {
            x.set(0, n, R, n == 64 ? 7 : 0, true);
        }
        Check.say(x, "R=0:0-2~R>0");
        Check.say(x, "R=0:0-2^R>0");
        Check.say(x, "R=0:2^R>0");
        Check.say(x, "R=0:1-3^R=0");
        int[] some = {-1, 0, 0, 1, 1, 1, 0, 0, -1};
        int[] two = {0, 0, 0, 1, 0, 0, 0, 0, -1};
        int[] allDry = {-1, 1, 0, 0, 0, 1, 1, -1, -1};
        for (int i = 1; i < 9; i++) {
            int n = 59 + i;
            CHECK.due("some on " + n, x.truth(0, 0, n, 1), some[i]);
            CHECK.due("all on " + n, x.truth(1, 0, n, 1), some[i] == -1 ? -1 : 0);
            CHECK.due("third on " + n, x.truth(2, 0, n, 1), two[i]);
            CHECK.due("dry on " + n, x.truth(3, 0, n, 1), allDry[i]);
        }
        CHECK.due("the DAY ahead of the first that is kept", x.truth(0, 0, 59, 1), RedSky.NONE);
        CHECK.due("but its span from the third on", x.truth(2, 0, 59, 1), 0);
        for (int n = 1451; n <= 1460; n++) {
            x.set(0, n, R, 5, true);
        }
        Check.say(x, "R>0:9~R>0");
        Check.say(x, "R>0:0-9^R>0");
        Check.say(x, "R>0:0^R>0");
        CHECK.due("the last span", x.truth(4, 0, 1451, 1), 1);
        CHECK.due("behind the last DAY", x.truth(4, 0, 1452, 1), RedSky.NONE);
        CHECK.due("the last span", x.truth(5, 0, 1451, 1), 1);
        CHECK.due("behind the last DAY", x.truth(5, 0, 1452, 1), RedSky.NONE);
        CHECK.due("the last DAY itself", x.truth(6, 0, 1460, 1), 1);
        CHECK.due("behind it some hold, but it is not there", x.truth(0, 0, 1459, 1), RedSky.NONE);
    }

    private static void seasons() {
        RedSky x = new RedSky();
        Check.say(x, "S=1:1~R>0");
        Check.say(x, "S=1:1~R>0@3-3");
        Check.say(x, "S=1:1~R>0@2-4");
        Check.say(x, "S=1:1~R>0@11-2");
        Check.say(x, "S=1:1~R>0@4-3");
        Check.say(x, "S=1:1~R>0@#5");
        x.saint(5, 3, 1, 2, -1);
        int[] months = {1, 2, 3, 4, 10, 11, 12};
        int[][] due = {
            {1, 1, 1, 1, 1, 1, 1}, {0, 0, 1, 0, 0, 0, 0}, {0, 1, 1, 1, 0, 0, 0}, {1, 1, 0, 0, 0, 1, 1},
            {1, 1, 1, 1, 1, 1, 1}};
        for (int k = 0; k < due.length; k++) {
            for (int i = 0; i < months.length; i++) {
                int n = x.day(3, months[i], 1), last = x.day(3, months[i] % 12 + 1, 1) - 1;
                CHECK.due("season " + k + " on " + n, x.truth(k, 1, n, 2), due[k][i]);
                if (months[i] < 12) {
                    CHECK.due("season " + k + " on " + last, x.truth(k, 2, last, 2), due[k][i]);
                }
            }
        }
        CHECK.due("not moved yet", x.truth(5, 0, 365 + 59, 2), 1);
        CHECK.due("moved", x.truth(5, 0, 730 + 58, 2), 1);
        CHECK.due("not where it was", x.truth(5, 0, 730 + 59, 2), 0);
        CHECK.due("in the long YEAR", x.truth(5, 0, 1095 + 59, 2), 1);
        x.saint(5, 1, 2, 0, 0);
        CHECK.due("a SAINT as he is now", x.truth(5, 0, 1, 2), 1);
        CHECK.due("and not as he was", x.truth(5, 0, 365 + 59, 2), 0);
    }

    /** On the DAYS from n: W is told by the first letter (1, 0, or - for a gap), R by the second. */
    private static void keep(RedSky x, int v, int n, String... days) {
        for (int i = 0; i < days.length; i++) {
            put(x, v, n + i, W, days[i].charAt(0));
            put(x, v, n + i, R, days[i].charAt(1));
        }
    }

    private static void put(RedSky x, int v, int n, int f, char c) {
        x.set(v, n, f, c == '1' ? 1 : 0, c != '-');
    }

    private static void casesOfYearsAndMonths() {
        RedSky x = new RedSky();
        Check.say(x, "W=1:0~R>0");
        Check.say(x, "W=1:0~R>0@2-2");
        keep(x, 0, x.day(0, 1, 30), "11", "10", "01", "-1", "1-");
        keep(x, 0, x.day(2, 1, 31), "11", "01", "00");
        keep(x, 0, x.day(3, 2, 28), "11", "11", "11");
        int[][] years = {{0, 3, 9, 6, 5, 7}, {0, 0, 3, 2, 1, 2}, {1, 1, 0, 0, 0, 0}, {2, 2, 3, 1, 1, 2},
            {3, 3, 3, 3, 3, 3}, {0, 2, 6, 3, 2, 4}, {1, 3, 6, 4, 4, 5}};
        for (int[] row : years) {
            for (int what = 0; what < 4; what++) {
                CHECK.due("cases " + row[0] + " to " + row[1] + ", " + what,
                    x.cases(0, 0, row[0], row[1], what), row[2 + what]);
            }
        }
        int[][] months = {{1, 3, 3, 2, 2}, {2, 5, 2, 2, 4}, {3, 1, 1, 1, 1}, {4, 0, 0, 0, 0}, {12, 0, 0, 0, 0}};
        for (int[] row : months) {
            for (int what = 0; what < 4; what++) {
                CHECK.due("month " + row[0] + ", " + what, x.month(0, 0, row[0], what), row[1 + what]);
                CHECK.due("in the season, month " + row[0] + ", " + what, x.month(1, 0, row[0], what),
                    row[0] == 2 ? row[1 + what] : 0);
            }
        }
        CHECK.due("in the season", x.cases(1, 0, 0, 3, 1), 2);
        CHECK.due("another VALLEY", x.cases(0, 1, 0, 3, 0), 0);
    }

    private static void expectedAndWorth() {
        RedSky x = new RedSky();
        Check.say(x, "W=1:0~R>0");
        CHECK.due("nothing kept", x.expected(0, 0), 0);
        CHECK.due("nothing kept", x.worth(0, 0), 0);
        // January: 3 count, 2 cases, 2 rainy: 2 * 1000 * 2 / 3
        keep(x, 0, x.day(0, 1, 1), "11", "10");
        keep(x, 0, x.day(3, 1, 1), "01");
        // May: 7 count, 1 case, 3 rainy: 3000 / 7; June: no case
        keep(x, 0, x.day(1, 5, 1), "11", "01", "01", "00", "00", "00", "00");
        keep(x, 0, x.day(1, 6, 1), "01", "00");
        CHECK.due("expected", x.expected(0, 0), 1333 + 428);
        CHECK.due("worth", x.worth(0, 0), 2000 - 1761);
        CHECK.due("another VALLEY", x.worth(0, 2), 0);
        keep(x, 1, 0, "10", "01", "01");
        CHECK.due("a worth below 0", x.worth(0, 1), -666);
        keep(x, 2, 500, "11");
        CHECK.due("one DAY that counts", x.expected(0, 2), 1000);
    }

    private static void turnedYears() {
        RedSky x = new RedSky();
        Check.say(x, "W=1:0~R>0");
        Check.say(x, "W=1:1~R>0");
        Check.say(x, "W=1:0~R>0@#0");
        keep(x, 0, x.day(0, 5, 1), "1-", "1-");
        keep(x, 0, x.day(1, 5, 1), "-1", "-0");
        keep(x, 0, x.day(3, 5, 1), "-1", "-1");
        CHECK.due("unturned", x.cases(0, 0, 0, 3, 0), 0);
        CHECK.due("right by 1", x.turned(0, 0, 1, 0), 1);
        CHECK.due("cases by 1", x.turned(0, 0, 1, 1), 2);
        CHECK.due("cases by 2", x.turned(0, 0, 2, 1), 0);
        CHECK.due("right by 3", x.turned(0, 0, 3, 0), 2);
        CHECK.due("cases by 3", x.turned(0, 0, 3, 1), 2);
        x.saint(0, 5, 2, 0, 0);
        CHECK.due("the season is that of the DAY", x.turned(2, 0, 1, 1), 1);
        CHECK.due("right", x.turned(2, 0, 1, 0), 0);
        // from the last DAY of YEAR 3 by 1: the second on the first DAY of YEAR 1, behind the last of YEAR 0
        keep(x, 1, x.day(3, 12, 31), "1-");
        keep(x, 1, x.day(1, 1, 1), "-1");
        CHECK.due("over the end", x.turned(1, 1, 1, 0), 1);
        CHECK.due("over the end", x.turned(1, 1, 1, 1), 1);
        keep(x, 1, x.day(2, 12, 31), "1-");
        CHECK.due("behind the last DAY", x.turned(1, 1, 1, 1), 1);
    }

    private static void turnedLeapDay() {
        for (int f = 0; f < 4; f++) {
            RedSky x = new RedSky();
            x.first(f);
            int longYear = (4 - f) % 4;
            for (int y = 0; y < 4; y++) {
                for (int v = 0; v < 3; v++) {
                    x.write(v, y, 1, 0);
                }
            }
            Check.say(x, "W>-1:0~R>-1");
            Check.say(x, "W>-1:0~R>-1@2-2");
            for (int t = 1; t < 4; t++) {
                CHECK.due("2/29 is not there", x.turned(0, 0, t, 1), 1460);
                CHECK.due("2/29 is not there", x.turned(1, 0, t, 1), 112);
                CHECK.due("right", x.turned(0, 0, t, 0), 1460);
            }
            int there = x.day((longYear + 1) % 4, 3, 1);
            x.set(1, there, R, 0, false);
            CHECK.due("a gap on 3/1", x.turned(0, 1, 1, 1), 1459);
            x.set(1, x.day(longYear, 2, 29), R, 0, false);
            CHECK.due("a gap on 2/29 is never met", x.turned(0, 1, 1, 1), 1459);
        }
    }

    private static void chances() {
        RedSky x = new RedSky();
        Check.say(x, "W=1:0~R>0");
        CHECK.due("no cases ever", x.chance(0, 0), 3);
        // YEAR 0 has two CASES, one RIGHT; by 1 both, by 2 none of one, by 3 one of two
        keep(x, 0, x.day(0, 7, 1), "11", "10");
        keep(x, 0, x.day(1, 7, 1), "-1", "-1");
        keep(x, 0, x.day(2, 7, 1), "-0");
        keep(x, 0, x.day(3, 7, 1), "-0", "-1");
        CHECK.due("by 1 and 3", x.chance(0, 0), 2);
        x.set(0, x.day(2, 7, 1), R, 0, false);
        CHECK.due("by 2 there are no cases", x.chance(0, 0), 3);
        x.set(0, x.day(0, 7, 2), R, 3, true);
        CHECK.due("all are RIGHT now", x.chance(0, 0), 2);
        x.set(0, x.day(0, 7, 1), R, 0, false);
        x.set(0, x.day(0, 7, 2), R, 0, false);
        CHECK.due("no cases now", x.chance(0, 0), 3);
    }

    private static void partedDays() {
        RedSky x = new RedSky();
        Check.say(x, "W=1:0~R>0");
        Check.say(x, "!W=0:0^!R=0");
        Check.say(x, "W=1:1~R>0");
        Check.say(x, "W=1:0~R>0@1-1");
        Check.say(x, "W=0:0~R>0");
        CHECK.due("nothing kept", x.parted(0, 4, 0), 0);
        CHECK.due("nothing kept", x.one(0, 4), 1);
        keep(x, 0, 30, "11", "10", "01", "00", "1-", "-1", "11");
        CHECK.due("the same in other words", x.parted(0, 1, 0), 0);
        CHECK.due("one with itself", x.one(2, 2), 1);
        CHECK.due("first unlike", x.parted(0, 4, 0), 5);
        // day 30: right and not; 31: not and right; 32: no case; 33: the DAY behind is a gap; 36: as well
        CHECK.due("one alone is right", x.parted(0, 2, 0), 2);
        CHECK.due("the other way round", x.parted(2, 0, 0), 2);
        CHECK.due("out of season is no case", x.parted(0, 3, 0), 2);
        CHECK.due("one", x.one(0, 3), 0);
        CHECK.due("in another VALLEY they are not parted", x.parted(0, 3, 1), 0);
        x.first(1);
        keep(x, 2, 100, "11");
        CHECK.due("one", x.one(0, 1), 1);
        CHECK.due("parted in the last VALLEY", x.one(0, 3), 0);
        keep(x, 2, 100, "01");
        CHECK.due("both no cases", x.one(0, 3), 1);
        CHECK.due("one case", x.one(4, 0), 0);
    }

    private static void homes() {
        RedSky x = new RedSky();
        Check.say(x, "W=1:0~R>0");
        CHECK.due("no cases", x.home(0), RedSky.NONE);
        keep(x, 0, 0, "01");
        CHECK.due("no cases", x.home(0), RedSky.NONE);
        keep(x, 2, 0, "10", "01");
        CHECK.due("the only one, though below 0", x.home(0), 2);
        CHECK.due("below 0", x.worth(0, 2), -500);
        keep(x, 1, 0, "10", "01");
        CHECK.due("of like ones the least", x.home(0), 1);
        keep(x, 2, 0, "11", "00");
        CHECK.due("the greatest", x.home(0), 2);
        keep(x, 0, 0, "11", "00");
        CHECK.due("of like ones the least", x.home(0), 0);
    }

    private static void refusals() {
        RedSky x = new RedSky();
        Check.say(x, "W=1:0~R>0");
        int u = RedSky.UNKNOWN, o = RedSky.OUTSIDE;
        int[] wrong = {-1, 1, 8, Integer.MAX_VALUE, Integer.MIN_VALUE};
        for (int k : wrong) {
            CHECK.due("truth", x.truth(k, 0, 0, 9), u);
            CHECK.due("cases", x.cases(k, 0, 9, 9, 9), u);
            CHECK.due("month", x.month(k, 0, 0, 9), u);
            CHECK.due("expected", x.expected(k, 0), u);
            CHECK.due("worth", x.worth(k, 0), -100000001);
            CHECK.due("turned", x.turned(k, 0, 0, 9), u);
            CHECK.due("chance", x.chance(k, 0), u);
            CHECK.due("parted", x.parted(k, 0, 0), u);
            CHECK.due("parted", x.parted(0, k, 0), u);
            CHECK.due("one", x.one(k, 0), u);
            CHECK.due("one", x.one(0, k), u);
            CHECK.due("home", x.home(k), u);
        }
        for (int v : new int[] {-1, 3, Integer.MAX_VALUE, Integer.MIN_VALUE}) {
            CHECK.due("truth", x.truth(0, v, 0, 9), u);
            CHECK.due("cases", x.cases(0, v, 9, 9, 9), u);
            CHECK.due("month", x.month(0, v, 0, 9), u);
            CHECK.due("expected", x.expected(0, v), u);
            CHECK.due("worth", x.worth(0, v), -100000001);
            CHECK.due("turned", x.turned(0, v, 0, 9), u);
            CHECK.due("chance", x.chance(0, v), u);
            CHECK.due("parted", x.parted(0, 0, v), u);
        }
        CHECK.due("truth n", x.truth(0, 0, 1461, 9), u);
        CHECK.due("truth n", x.truth(0, 0, -1, 0), u);
        CHECK.due("truth side", x.truth(0, 0, 0, 3), o);
        CHECK.due("truth side", x.truth(0, 0, 0, -1), o);
        CHECK.due("cases a", x.cases(0, 0, -1, 3, 0), o);
        CHECK.due("cases b", x.cases(0, 0, 0, 4, 0), o);
        CHECK.due("cases b below a", x.cases(0, 0, 2, 1, 0), o);
        CHECK.due("cases what", x.cases(0, 0, 0, 3, 4), o);
        CHECK.due("cases what", x.cases(0, 0, 0, 3, -1), o);
        CHECK.due("month m", x.month(0, 0, 0, 0), o);
        CHECK.due("month m", x.month(0, 0, 13, 0), o);
        CHECK.due("month what", x.month(0, 0, 1, 4), o);
        CHECK.due("turned t", x.turned(0, 0, 0, 0), o);
        CHECK.due("turned t", x.turned(0, 0, 4, 0), o);
        CHECK.due("turned what", x.turned(0, 0, 1, 2), o);
        CHECK.due("turned what", x.turned(0, 0, 1, -1), o);
    }
}
