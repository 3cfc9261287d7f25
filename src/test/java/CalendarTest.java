/** Promises 1 to 6: a new object, first, day, date, saint, feast. */
public final class CalendarTest {
    private static final Check CHECK = new Check("CalendarTest");

    public static void main(String[] args) {
        newObject();
        longYears();
        firstEmpties();
        days();
        dates();
        saints();
        feastsAtTheEdges();
        CHECK.end();
    }

    private static void newObject() {
        RedSky x = new RedSky();
        CHECK.due("count(0)", x.count(0), 0);
        CHECK.due("count(1)", x.count(1), 0);
        CHECK.due("count(2)", x.count(2), 1);
        CHECK.due("count(3)", x.count(3), 0);
        for (int v = 0; v < 3; v++) {
            for (int y = 0; y < 4; y++) {
                CHECK.due("kept", x.kept(v, y), 0);
            }
        }
        CHECK.due("get", x.get(2, 1460, 3), -1000);
        CHECK.due("foretell", x.foretell(5, 1460, RedSky.NONE), RedSky.NONE);
        CHECK.due("age", x.age(5, 0), 0);
        CHECK.due("list", x.list(0), RedSky.NONE);
        CHECK.due("entry", x.entry(0), RedSky.NONE);
        CHECK.due("asks", x.asks(0, 0), RedSky.UNKNOWN);
        for (int y = 0; y < 4; y++) {
            CHECK.due("feast", x.feast(7, y), 365 * y);
        }
        long h = 31 * 199 + 1;
        for (int s = 0; s < 8; s++) {
            h = 31 * (31 * (31 * (31 * h + 1) + 1));
        }
        for (int i = 0; i < 7; i++) {
            h *= 31;
        }
        CHECK.due("digest()", x.digest(), h);
    }

    private static void longYears() {
        RedSky x = new RedSky();
        int was = 1;
        for (int f = 0; f < 4; f++) {
            CHECK.due("first(" + f + ")", x.first(f), was);
            was = f;
            int longYear = (4 - f) % 4;
            for (int y = 0; y < 4; y++) {
                int start = 365 * y + (y > longYear ? 1 : 0);
                CHECK.due("start of " + y, x.day(y, 1, 1), start);
                CHECK.due("2/29 of " + y, x.day(y, 2, 29), y == longYear ? start + 59 : RedSky.NONE);
                CHECK.due("3/1 of " + y, x.day(y, 3, 1), start + (y == longYear ? 60 : 59));
            }
            CHECK.due("the last DAY", x.day(3, 12, 31), 1460);
        }
        int[] outside = {-1, 4, Integer.MIN_VALUE, Integer.MAX_VALUE};
        for (int f : outside) {
            CHECK.due("first(" + f + ")", x.first(f), RedSky.OUTSIDE);
        }
        CHECK.due("count(2)", x.count(2), 3);
    }

    private static void firstEmpties() {
        RedSky x = new RedSky();
        x.write(1, 2, 77, 0);
        x.draw(3, 1, 5);
        x.age(3, 12);
        x.saint(4, 6, 24, 1, 11);
        Check.say(x, "S=1:1~R>0");
        Check.type(x, "S=");
        long before = x.digest();
        CHECK.due("first(4)", x.first(4), RedSky.OUTSIDE);
        CHECK.due("a refusal changes nothing", x.digest(), before);
        CHECK.due("first(1)", x.first(1), 1);
        CHECK.due("kept(1, 2)", x.kept(1, 2), 0);
        CHECK.due("foretell(3, 400, -1)", x.foretell(3, 400, -1), RedSky.NONE);
        CHECK.due("age stays", x.age(3, 12), 12);
        CHECK.due("saint stays", x.feast(4, 2), 730 + 174 + 11);
        CHECK.due("saying stays", x.count(0), 1);
        CHECK.due("page stays", x.count(1), 2);
    }

    private static void days() {
        RedSky x = new RedSky();
        CHECK.due("day(0, 12, 31)", x.day(0, 12, 31), 364);
        CHECK.due("day(3, 2, 29)", x.day(3, 2, 29), 1095 + 59);
        CHECK.due("day(0, 4, 31)", x.day(0, 4, 31), RedSky.NONE);
        CHECK.due("day(0, 2, 29)", x.day(0, 2, 29), RedSky.NONE);
        CHECK.due("day(3, 2, 30)", x.day(3, 2, 30), RedSky.NONE);
        CHECK.due("day(-1, 1, 1)", x.day(-1, 1, 1), RedSky.OUTSIDE);
        CHECK.due("day(4, 1, 1)", x.day(4, 1, 1), RedSky.OUTSIDE);
        CHECK.due("day(0, 0, 1)", x.day(0, 0, 1), RedSky.OUTSIDE);
        CHECK.due("day(0, 13, 1)", x.day(0, 13, 1), RedSky.OUTSIDE);
        CHECK.due("day(0, 1, 0)", x.day(0, 1, 0), RedSky.OUTSIDE);
        CHECK.due("day(0, 2, 32)", x.day(0, 2, 32), RedSky.OUTSIDE);
        CHECK.due("day(0, 1, max)", x.day(0, 1, Integer.MAX_VALUE), RedSky.OUTSIDE);
    }

    private static void dates() {
        int[] lengths = {31, 28, 31, 30, 31, 30, 31, 31, 30, 31, 30, 31};
        for (int f = 0; f < 4; f++) {
            int n = 0;
            for (int y = 0; y < 4; y++) {
                for (int m = 1; m <= 12; m++) {
                    int length = lengths[m - 1] + (m == 2 && (f + y) % 4 == 0 ? 1 : 0);
                    n = datesOfMonth(f, y, m, length, n);
                }
            }
            CHECK.due("DAYS", n, 1461);
        }
        RedSky x = new RedSky();
        CHECK.due("date(-1, 0)", x.date(-1, 0), RedSky.UNKNOWN);
        CHECK.due("date(1461, 0)", x.date(1461, 0), RedSky.UNKNOWN);
        CHECK.due("date(1461, 9)", x.date(1461, 9), RedSky.UNKNOWN);
        CHECK.due("date(0, 3)", x.date(0, 3), RedSky.OUTSIDE);
        CHECK.due("date(0, -1)", x.date(0, -1), RedSky.OUTSIDE);
    }

    /** A new object each MONTH, since one is used for 512 calls at most: the DAY behind the MONTH. */
    private static int datesOfMonth(int f, int y, int m, int length, int start) {
        RedSky x = new RedSky();
        x.first(f);
        for (int d = 1; d <= length; d++) {
            int n = start + d - 1;
            CHECK.due("day", x.day(y, m, d), n);
            CHECK.due("date 0 of " + n, x.date(n, 0), y);
            CHECK.due("date 1 of " + n, x.date(n, 1), m);
            CHECK.due("date 2 of " + n, x.date(n, 2), d);
        }
        return start + length;
    }

    private static void saints() {
        RedSky x = new RedSky();
        CHECK.due("saint", x.saint(2, 6, 24, 1, 11), 1);
        CHECK.due("feast ahead of the YEAR", x.feast(2, 0), 174);
        CHECK.due("feast from the YEAR on", x.feast(2, 1), 365 + 174 + 11);
        CHECK.due("feast later", x.feast(2, 3), 1095 + 175 + 11);
        long before = x.digest();
        CHECK.due("saint(8)", x.saint(8, 0, 0, 0, 0), RedSky.UNKNOWN);
        CHECK.due("saint(-1)", x.saint(-1, 1, 1, 0, 0), RedSky.UNKNOWN);
        CHECK.due("m 0", x.saint(2, 0, 1, 0, 0), RedSky.OUTSIDE);
        CHECK.due("m 13", x.saint(2, 13, 1, 0, 0), RedSky.OUTSIDE);
        CHECK.due("d 0", x.saint(2, 1, 0, 0, 0), RedSky.OUTSIDE);
        CHECK.due("d 32", x.saint(2, 1, 32, 0, 0), RedSky.OUTSIDE);
        CHECK.due("y 4", x.saint(2, 1, 1, 4, 0), RedSky.OUTSIDE);
        CHECK.due("y -1", x.saint(2, 1, 1, -1, 0), RedSky.OUTSIDE);
        CHECK.due("k 31", x.saint(2, 1, 1, 0, 31), RedSky.OUTSIDE);
        CHECK.due("k -31", x.saint(2, 1, 1, 0, -31), RedSky.OUTSIDE);
        CHECK.due("refusals change nothing", x.digest(), before);
        CHECK.due("k 30", x.saint(2, 1, 1, 0, 30), 1);
        CHECK.due("feast", x.feast(2, 0), 30);
        CHECK.due("k -30", x.saint(7, 12, 31, 3, -30), 1);
        CHECK.due("feast", x.feast(7, 3), 1430);
        CHECK.due("feast(8, 9)", x.feast(8, 9), RedSky.UNKNOWN);
        CHECK.due("feast(-1, 0)", x.feast(-1, 0), RedSky.UNKNOWN);
        CHECK.due("feast(0, 4)", x.feast(0, 4), RedSky.OUTSIDE);
        CHECK.due("feast(0, -1)", x.feast(0, -1), RedSky.OUTSIDE);
    }

    private static void feastsAtTheEdges() {
        RedSky x = new RedSky();
        CHECK.due("a DATE that three YEARS lack", x.saint(0, 2, 29, 0, 2), 1);
        CHECK.due("feast", x.feast(0, 0), RedSky.NONE);
        CHECK.due("feast", x.feast(0, 3), 1095 + 59 + 2);
        CHECK.due("a DATE that is nowhere", x.saint(0, 2, 30, 0, 0), 1);
        CHECK.due("feast", x.feast(0, 3), RedSky.NONE);
        CHECK.due("moved into the YEAR ahead", x.saint(1, 1, 5, 0, -5), 1);
        CHECK.due("feast", x.feast(1, 0), RedSky.NONE);
        CHECK.due("feast", x.feast(1, 1), 364);
        CHECK.due("moved to the first DAY", x.saint(1, 1, 5, 0, -4), 1);
        CHECK.due("feast", x.feast(1, 0), 0);
        CHECK.due("moved behind the last DAY", x.saint(1, 12, 31, 0, 1), 1);
        CHECK.due("feast", x.feast(1, 3), RedSky.NONE);
        CHECK.due("feast", x.feast(1, 2), 1095);
        Check.say(x, "S=1:1~R>0@#1");
        CHECK.due("the season is of all YEARS", x.truth(0, 0, 365, 2), 1);
        CHECK.due("not the DATE itself", x.truth(0, 0, 364, 2), 0);
        CHECK.due("nowhere is no DAY", x.truth(0, 0, 1460, 2), 0);
        CHECK.due("nor the first", x.truth(0, 0, 0, 2), 0);
    }
}
