/** The boundary cases of promises 1 to 6, each sentence a run of its own. */
public final class CalendarEdgesTest {
    private static final Check CHECK = new Check("CalendarEdgesTest");
    private static final int[] LENGTHS = {31, 28, 31, 30, 31, 30, 31, 31, 30, 31, 30, 31};

    public static void main(String[] args) {
        newObject();
        newRows();
        firstTaken();
        firstEmpties();
        firstKeeps();
        oneLongYear();
        lastDates();
        seamsOfYears();
        dateAtTheSeams();
        saintsAtFirst();
        saintFromAYearOn();
        saintMovedOutOfTheYear();
        saintNowhere();
        saintWithoutTheDate();
        saintToldAnew();
        CHECK.end();
    }

    private static Run run(String name) {
        return new Run(CHECK, name);
    }

    // ---- promise 1

    private static void newObject() {
        Run r = run("nothing is written");
        r.due("blank()", 0).due("forget()", 0).due("good()", 0).due("say()", RedSky.STATE);
        r.eachDue("count(?)", 0, 0, 1, 0).eachDue("list(?)", -1, -1, -1, -1, -1, -1).eachDue("entry(?)", -1, -1);
        r.due("asks(0, 0)", RedSky.UNKNOWN).due("home(0)", RedSky.UNKNOWN).due("learn(0, 0, 0, 0)", RedSky.UNKNOWN);
        r.due("worth(0, 0)", -100000001).due("one(0, 0)", RedSky.UNKNOWN);
    }

    private static void newRows() {
        Run r = run("gaps, NONE and 0 at first");
        for (int v = 0; v < 3; v++) {
            r.eachDue("kept(" + v + ", ?)", 0, 0, 0, 0);
            r.eachDue("get(" + v + ", 0, ?)", -1000, -1000, -1000, -1000);
            r.eachDue("get(" + v + ", 1460, ?)", -1000, -1000, -1000, -1000);
        }
        for (int a = 0; a < 6; a++) {
            r.due("age(" + a + ", 0)", 0).due("foretell(" + a + ", 0, -1)", -1).due("foretell(" + a + ", 1460, -1)", -1);
            r.due("wrong(" + a + ", 0)", 0);
        }
        r.due("shared(0, 5, 2, 0)", 0);
    }

    // ---- promise 2

    private static void firstTaken() {
        run("FIRST is 0 to 3, 1 at first: what it was").due("count(2)", 1).due("first(0)", 1).due("count(2)", 0)
            .due("first(3)", 0).due("count(2)", 3).due("first(3)", 3).due("first(2)", 3).due("first(1)", 2);
        run("FIRST beyond is OUTSIDE").stays("first(-1)", RedSky.OUTSIDE).stays("first(4)", RedSky.OUTSIDE)
            .stays("first(MIN)", RedSky.OUTSIDE).stays("first(MAX)", RedSky.OUTSIDE).due("count(2)", 1);
    }

    private static void firstEmpties() {
        for (int f = 0; f < 4; f++) {
            Run r = run("DIARIES and what ALMANACS foretell are gaps again, also if FIRST stays");
            for (int v = 0; v < 3; v++) {
                r.go("set(" + v + ", 0, 0, 0, true)", "set(" + v + ", 1460, 3, 40, true)");
            }
            for (int a = 0; a < 6; a++) {
                r.go("foretell(" + a + ", 0, 0)", "foretell(" + a + ", 1460, 1)");
            }
            r.due("first(" + f + ")", 1);
            for (int v = 0; v < 3; v++) {
                r.eachDue("kept(" + v + ", ?)", 0, 0, 0, 0);
                r.due("get(" + v + ", 0, 0)", -1000).due("get(" + v + ", 1460, 3)", -1000);
            }
            for (int a = 0; a < 6; a++) {
                r.due("foretell(" + a + ", 0, -1)", -1).due("foretell(" + a + ", 1460, -1)", -1);
            }
        }
    }

    private static void firstKeeps() {
        Run r = Run.standing(CHECK, "all else stays as it was");
        r.eachDue("count(?)", 3, 7, 2, 2);
        long entry = r.ask("entry(0)"), size = r.ask("list(1)"), learned = r.ask("list(2)"), judged = r.ask("list(5)");
        r.due("first(0)", 2).eachDue("count(?)", 3, 7, 0, 2);
        r.due("entry(0)", entry).due("list(1)", size).due("list(2)", learned).due("list(5)", judged);
        // YEAR 0 is long now
        r.due("feast(3, 0)", 175).due("feast(3, 1)", 366 + 174 + 11).due("feast(7, 2)", 1095).due("feast(7, 3)", 1430);
        r.due("age(0, 1)", 1).due("age(1, 3)", 3).due("age(2, 5)", 5).due("asks(1, 5)", 4).due("asks(2, 7)", 3);
    }

    private static void oneLongYear() {
        for (int f = 0; f < 4; f++) {
            Run r = run("just one YEAR is long: that of which FIRST and it are a multiple of 4");
            r.go("first(" + f + ")");
            for (int y = 0; y < 4; y++) {
                boolean isLong = (f + y) % 4 == 0;
                r.due("write(1, " + y + ", 0, 1)", isLong ? 1464 : 1460);
                long start = r.ask("day(" + y + ", 1, 1)");
                r.due("day(" + y + ", 2, 28)", start + 58).due("day(" + y + ", 2, 29)", isLong ? start + 59 : -1);
                r.due("day(" + y + ", 2, 30)", -1).due("day(" + y + ", 12, 31)", start + (isLong ? 365 : 364));
            }
        }
    }

    // ---- promise 3

    private static void lastDates() {
        for (int y = 0; y < 4; y++) {
            Run r = run("a YEAR has the last DATE of a MONTH and lacks the next: NONE up to 31, OUTSIDE beyond");
            int last = 365 * y - 1;
            for (int m = 1; m <= 12; m++) {
                int length = LENGTHS[m - 1] + (m == 2 && y == 3 ? 1 : 0);
                String month = "day(" + y + ", " + m + ", ";
                r.due(month + "1)", last + 1);
                last += length;
                r.due(month + length + ")", last).due(month + "0)", RedSky.OUTSIDE).due(month + "32)", RedSky.OUTSIDE);
                for (int d = length + 1; d <= 31; d++) {
                    r.due(month + d + ")", RedSky.NONE);
                }
            }
        }
    }

    private static void seamsOfYears() {
        int[][] starts = {{0, 366, 731, 1096}, {0, 365, 730, 1095}, {0, 365, 730, 1096}, {0, 365, 731, 1096}};
        for (int f = 0; f < 4; f++) {
            Run r = run("DAYS are numbered 0 to 1460, all YEARS one behind the other").go("first(" + f + ")");
            for (int y = 0; y < 4; y++) {
                int end = y < 3 ? starts[f][y + 1] : 1461;
                r.due("day(" + y + ", 1, 1)", starts[f][y]).due("day(" + y + ", 12, 31)", end - 1);
                r.eachDue("date(" + starts[f][y] + ", ?)", y, 1, 1).eachDue("date(" + (end - 1) + ", ?)", y, 12, 31);
            }
            r.due("date(1461, 0)", RedSky.UNKNOWN).due("date(-1, 0)", RedSky.UNKNOWN);
        }
    }

    // ---- promise 4

    private static void dateAtTheSeams() {
        Run r = run("YEAR, MONTH and DATE of the DAYS on both sides of a seam");
        r.eachDue("date(0, ?)", 0, 1, 1).eachDue("date(30, ?)", 0, 1, 31).eachDue("date(31, ?)", 0, 2, 1);
        r.eachDue("date(58, ?)", 0, 2, 28).eachDue("date(59, ?)", 0, 3, 1);
        r.eachDue("date(1153, ?)", 3, 2, 28).eachDue("date(1154, ?)", 3, 2, 29).eachDue("date(1155, ?)", 3, 3, 1);
        r.eachDue("date(1460, ?)", 3, 12, 31).due("date(1460, 3)", RedSky.OUTSIDE).due("date(1460, -1)", RedSky.OUTSIDE);
    }

    // ---- promises 5 and 6

    private static void saintsAtFirst() {
        Run r = run("MONTH and DATE are 1, 1 at first, and no SAINT is moved");
        for (int s = 0; s < 8; s++) {
            r.eachDue("feast(" + s + ", ?)", 0, 365, 730, 1095);
        }
        r.due("feast(8, 0)", RedSky.UNKNOWN).due("feast(-1, 0)", RedSky.UNKNOWN);
    }

    private static void saintFromAYearOn() {
        for (int y = 0; y < 4; y++) {
            Run r = run("moved from YEAR " + y + " on, and not ahead of it");
            r.due("saint(0, 7, 4, " + y + ", 30)", 1).due("saint(7, 7, 4, " + y + ", -30)", 1);
            for (int at = 0; at < 4; at++) {
                long date = 365 * at + 184 + (at == 3 ? 1 : 0);
                r.due("feast(0, " + at + ")", at >= y ? date + 30 : date);
                r.due("feast(7, " + at + ")", at >= y ? date - 30 : date);
            }
            r.due("feast(1, 3)", 1095);
        }
        run("moved by 0").due("saint(4, 12, 31, 0, 0)", 1).eachDue("feast(4, ?)", 364, 729, 1094, 1460);
    }

    private static void saintMovedOutOfTheYear() {
        run("the DAY may lie in the YEAR ahead").due("saint(1, 1, 1, 1, -1)", 1).eachDue("feast(1, ?)", 0, 364, 729, 1094);
        run("or behind").due("saint(1, 12, 31, 0, 1)", 1).eachDue("feast(1, ?)", 365, 730, 1095, -1);
        run("told by the YEAR of the DATE, not by that of the DAY").due("saint(1, 12, 31, 1, 1)", 1)
            .eachDue("feast(1, ?)", 364, 730, 1095, -1).due("saint(1, 1, 1, 2, -1)", 1).eachDue("feast(1, ?)", 0, 365, 729, 1094);
        Run r = run("its SEASON is the DAYS of all YEARS, wherever they lie");
        r.say("S=1:0~R>0@#1").go("saint(1, 12, 31, 1, 1)");
        for (int n : new int[] {364, 730, 1095}) {
            r.due("truth(0, 0, " + n + ", 2)", 1).due("truth(0, 0, " + (n - 1) + ", 2)", 0);
            r.due("truth(0, 0, " + (n + 1) + ", 2)", 0);
        }
        r.due("truth(0, 0, 729, 2)", 0).due("truth(0, 0, 1460, 2)", 0).due("truth(0, 0, 0, 2)", 0);
    }

    private static void saintNowhere() {
        run("below 0: nowhere").due("saint(2, 1, 30, 0, -30)", 1).eachDue("feast(2, ?)", -1, 364, 729, 1094)
            .due("saint(2, 1, 29, 0, -30)", 1).due("feast(2, 0)", -1)
            .due("saint(2, 1, 1, 0, -30)", 1).due("feast(2, 0)", -1);
        run("the first DAY is there").due("saint(2, 1, 31, 0, -30)", 1).due("feast(2, 0)", 0)
            .due("saint(2, 1, 2, 0, -1)", 1).due("feast(2, 0)", 0);
        run("above 1460: nowhere").due("saint(2, 12, 2, 0, 30)", 1).eachDue("feast(2, ?)", 365, 730, 1095, -1)
            .due("saint(2, 12, 31, 3, 30)", 1).due("feast(2, 3)", -1);
        run("the last DAY is there").due("saint(2, 12, 1, 0, 30)", 1).due("feast(2, 3)", 1460)
            .due("saint(2, 12, 30, 0, 1)", 1).due("feast(2, 3)", 1460);
        Run r = run("nowhere is no DAY of its SEASON").say("S=1:0~R>0@#2", "S=1:0~R>0@#3");
        r.go("saint(2, 1, 1, 0, -1)", "saint(3, 12, 31, 0, 1)").due("truth(0, 0, 0, 2)", 0).due("truth(1, 0, 1460, 2)", 0);
    }

    private static void saintWithoutTheDate() {
        for (int f = 0; f < 4; f++) {
            Run r = run("a SAINT has no DAY in a YEAR that lacks the DATE").due("saint(5, 2, 29, 0, 1)", 1);
            r.go("first(" + f + ")");
            for (int y = 0; y < 4; y++) {
                boolean isLong = (f + y) % 4 == 0;
                r.due("feast(5, " + y + ")", isLong ? 365 * y + 60 : RedSky.NONE);
            }
        }
        Run r = run("a DATE that no YEAR has is taken").due("saint(6, 2, 30, 0, -30)", 1).eachDue("feast(6, ?)", -1, -1, -1, -1);
        r.due("saint(6, 2, 31, 0, 0)", 1).eachDue("feast(6, ?)", -1, -1, -1, -1);
        r.due("saint(6, 4, 31, 0, 30)", 1).eachDue("feast(6, ?)", -1, -1, -1, -1).say("S=1:0~R>0@#6");
        r.due("truth(0, 0, 0, 2)", 0).due("truth(0, 0, 120, 2)", 0).due("cases(0, 0, 0, 3, 0)", 0);
    }

    private static void saintToldAnew() {
        run("a SAINT told anew is moved by the new number alone").due("saint(0, 5, 1, 0, 30)", 1).due("feast(0, 0)", 150)
            .due("saint(0, 5, 1, 3, -2)", 1).eachDue("feast(0, ?)", 120, 485, 850, 1095 + 121 - 2)
            .due("saint(0, 1, 1, 0, 0)", 1).eachDue("feast(0, ?)", 0, 365, 730, 1095);
    }
}
