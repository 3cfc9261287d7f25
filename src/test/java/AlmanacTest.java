/** Promises 30 to 38: age, draw, copy, foretell, wrong, shared, alike, source, spring. */
public final class AlmanacTest {
    private static final Check CHECK = new Check("AlmanacTest");
    private static final int R = 2;

    public static void main(String[] args) {
        ages();
        drawing();
        copying();
        foretelling();
        wrongDays();
        sharedDays();
        alikeByRatio();
        sources();
        sourceOfMost();
        springs();
        refusals();
        CHECK.end();
    }

    private static void ages() {
        RedSky x = new RedSky();
        CHECK.due("age", x.age(0, 9999), 0);
        CHECK.due("age", x.age(0, 0), 9999);
        CHECK.due("age", x.age(5, 7), 0);
        CHECK.due("age", x.age(5, 10000), RedSky.OUTSIDE);
        CHECK.due("age", x.age(5, -1), RedSky.OUTSIDE);
        CHECK.due("age", x.age(5, 7), 7);
        CHECK.due("age", x.age(6, -1), RedSky.UNKNOWN);
        CHECK.due("age", x.age(-1, 0), RedSky.UNKNOWN);
    }

    private static void drawing() {
        RedSky x = new RedSky();
        x.foretell(1, 364, 1);
        x.foretell(1, 730, 0);
        long seed = 2147483647L;
        int wet = 0;
        int[] due = new int[365];
        for (int i = 0; i < 365; i++) {
            seed = (1103515245L * seed + 12345L) & 0x7fffffffL;
            due[i] = (int) (seed / 65536 % 2);
            wet += due[i];
        }
        CHECK.due("draw", x.draw(1, 1, 2147483647), wet);
        for (int i = 0; i < 365; i++) {
            CHECK.due("foretell", x.foretell(1, 365 + i, RedSky.NONE), due[i]);
        }
        CHECK.due("the DAY ahead", x.foretell(1, 364, 1), 1);
        CHECK.due("the DAY behind", x.foretell(1, 730, 0), 0);
        CHECK.due("another one", x.foretell(2, 365, RedSky.NONE), RedSky.NONE);
        CHECK.due("draw a second YEAR", x.draw(1, 2, 2), 203);
        CHECK.due("of that YEAR alone", x.draw(1, 0, 2), 203);
    }

    private static void copying() {
        RedSky x = new RedSky();
        int start = x.day(3, 1, 1);
        for (int i = 0; i < 12; i++) {
            x.foretell(4, start + i, i < 6 ? 1 : i < 9 ? 0 : RedSky.NONE);
        }
        x.foretell(4, start - 1, 1);
        x.foretell(4, 1460, 1);
        x.foretell(0, start + 11, 1);
        x.foretell(0, start - 1, 0);
        CHECK.due("copy", x.copy(0, 4, 3, 3), 10);
        int[] due = {1, 1, 0, 1, 1, 0, 0, 0, 1, -1, -1, -1};
        for (int i = 0; i < 12; i++) {
            CHECK.due("day " + i, x.foretell(0, start + i, RedSky.NONE), due[i]);
        }
        CHECK.due("another YEAR stays", x.foretell(0, start - 1, 0), 0);
        // the last DAY of the long YEAR is the 366th, a 3rd one too
        CHECK.due("the last DAY", x.foretell(0, 1460, 1), 0);
        x.foretell(4, 365, 1);
        x.foretell(0, 365, 0);
        CHECK.due("a YEAR of nothing", x.copy(0, 4, 0, 1), 0);
        CHECK.due("the DAY behind stays", x.foretell(0, 365, 0), 0);
        CHECK.due("the model stays", x.foretell(4, start + 2, 1), 1);
        CHECK.due("each one the other way round", x.copy(1, 4, 3, 1), 10);
        CHECK.due("turned", x.foretell(1, start, 1), 0);
        CHECK.due("turned", x.foretell(1, start + 6, 1), 1);
        CHECK.due("NONE stays", x.foretell(1, start + 9, RedSky.NONE), RedSky.NONE);
        CHECK.due("a stride beyond the YEAR", x.copy(2, 4, 3, 400), 10);
        CHECK.due("as it is", x.foretell(2, 1460, 1), 1);
        CHECK.due("a stride of the YEAR", x.copy(2, 4, 3, 366), 10);
        CHECK.due("the last is turned", x.foretell(2, 1460, 1), 0);
        CHECK.due("nothing is copied over what was", x.copy(0, 3, 3, 5), 0);
        CHECK.due("gone", x.foretell(0, start, RedSky.NONE), RedSky.NONE);
        x.draw(3, 0, 1);
        CHECK.due("of that YEAR alone", x.copy(3, 4, 3, 9), 10);
    }

    private static void foretelling() {
        RedSky x = new RedSky();
        CHECK.due("it was nothing", x.foretell(0, 0, 1), RedSky.NONE);
        CHECK.due("it was wet", x.foretell(0, 0, 0), 1);
        CHECK.due("it was dry", x.foretell(0, 0, RedSky.NONE), 0);
        CHECK.due("it was nothing", x.foretell(0, 0, RedSky.NONE), RedSky.NONE);
        CHECK.due("the last", x.foretell(5, 1460, 1), RedSky.NONE);
        CHECK.due("the last", x.foretell(5, 1460, 2), RedSky.OUTSIDE);
        CHECK.due("the last", x.foretell(5, 1460, -2), RedSky.OUTSIDE);
        CHECK.due("the last", x.foretell(5, 1460, 1), 1);
    }

    /** What an ALMANAC foretells from DAY n on: 1, 0, or - for nothing. */
    private static void foretell(RedSky x, int a, int n, String days) {
        for (int i = 0; i < days.length(); i++) {
            char c = days.charAt(i);
            x.foretell(a, n + i, c == '-' ? RedSky.NONE : c - '0');
        }
    }

    private static void rain(RedSky x, int v, int n, String days) {
        for (int i = 0; i < days.length(); i++) {
            char c = days.charAt(i);
            x.set(v, n + i, R, c == '-' ? 0 : c - '0', c != '-');
        }
    }

    private static void wrongDays() {
        RedSky x = new RedSky();
        CHECK.due("nothing", x.wrong(0, 0), 0);
        foretell(x, 0, 60, "1110000--");
        CHECK.due("no rain is kept", x.wrong(0, 0), 0);
        rain(x, 0, 60, "90-0129-0");
        CHECK.due("wet but dry, dry but wet", x.wrong(0, 0), 4);
        CHECK.due("another VALLEY", x.wrong(0, 1), 0);
        CHECK.due("another one", x.wrong(1, 0), 0);
        rain(x, 2, 1460, "0");
        foretell(x, 5, 1460, "1");
        CHECK.due("the last DAY", x.wrong(5, 2), 1);
    }

    private static void sharedDays() {
        RedSky x = new RedSky();
        rain(x, 1, 10, "0000111-0");
        foretell(x, 2, 10, "1100000-1");
        foretell(x, 3, 10, "1011-101-");
        // common: the DAYS 0, 1, 2, 3, 5, 6
        CHECK.due("COMMON", x.shared(2, 3, 1, 0), 6);
        CHECK.due("SHARED", x.shared(2, 3, 1, 1), 2);
        CHECK.due("WRONG of a", x.shared(2, 3, 1, 2), 4);
        CHECK.due("WRONG of b", x.shared(2, 3, 1, 3), 4);
        CHECK.due("wrong at all", x.wrong(2, 1), 6);
        CHECK.due("wrong at all", x.wrong(3, 1), 4);
        foretell(x, 2, 16, "1");
        CHECK.due("SHARED", x.shared(2, 3, 1, 1), 1);
        CHECK.due("WRONG of a", x.shared(2, 3, 1, 2), 3);
        CHECK.due("WRONG of b", x.shared(2, 3, 1, 3), 4);
        CHECK.due("the other way round", x.shared(3, 2, 1, 2), 4);
        CHECK.due("with itself", x.shared(3, 3, 1, 1), 4);
        CHECK.due("with itself", x.shared(3, 3, 1, 0), 6);
        CHECK.due("another VALLEY", x.shared(2, 3, 0, 0), 0);
    }

    private static void alikeByRatio() {
        RedSky x = new RedSky();
        CHECK.due("nothing is not above nothing", x.alike(0, 1, 0, 1), 0);
        rain(x, 0, 0, "00000000");
        foretell(x, 0, 0, "11110000");
        foretell(x, 1, 0, "11001100");
        // SHARED 2, COMMON 8, WRONG 4 and 4: 160 is above 16 times the ratio up to 9
        CHECK.due("9", x.alike(0, 1, 0, 9), 1);
        CHECK.due("10: equal is not above", x.alike(0, 1, 0, 10), 0);
        CHECK.due("11", x.alike(1, 0, 0, 11), 0);
        CHECK.due("with itself", x.alike(0, 0, 0, 19), 1);
        CHECK.due("with itself", x.alike(0, 0, 0, 20), 0);
        CHECK.due("100", x.alike(0, 1, 0, 100), 0);
        RedSky y = new RedSky();
        for (int year = 0; year < 4; year++) {
            y.draw(0, year, 3);
            y.copy(1, 0, year, 1);
            y.write(0, year, 8, 0);
        }
        CHECK.due("none is shared", y.alike(0, 1, 0, 1), 0);
        for (int n = 0; n < 1461; n += 4) {
            y.set(0, n, R, 0, true);
        }
        CHECK.due("greatest products", y.alike(0, 0, 0, 100), 0);
        CHECK.due("greatest products", y.alike(0, 0, 0, 1), 1);
    }

    private static void sources() {
        RedSky x = new RedSky();
        rain(x, 0, 0, "00000000");
        foretell(x, 3, 0, "11100000");
        foretell(x, 1, 0, "11100000");
        CHECK.due("of equal AGE", x.source(3, 0, 10), RedSky.NONE);
        x.age(3, 5);
        CHECK.due("of less AGE", x.source(3, 0, 10), 1);
        CHECK.due("not of greater AGE", x.source(1, 0, 10), RedSky.NONE);
        CHECK.due("not alike by more", x.source(3, 0, 27), RedSky.NONE);
        CHECK.due("alike by less", x.source(3, 0, 26), 1);
        CHECK.due("alike by 1", x.source(3, 0, 1), 1);
        CHECK.due("alike by 1", x.spring(3, 0, 1), 1);
        CHECK.due("by 100", x.source(3, 0, 100), RedSky.NONE);
        CHECK.due("by 100", x.spring(3, 0, 100), 3);
        foretell(x, 0, 0, "11100000");
        CHECK.due("of like ones the least", x.source(3, 0, 10), 0);
        x.age(0, 5);
        CHECK.due("of less AGE", x.source(3, 0, 10), 1);
        CHECK.due("another VALLEY", x.source(3, 1, 10), RedSky.NONE);
    }

    private static void sourceOfMost() {
        RedSky x = new RedSky();
        rain(x, 0, 0, "0000000000");
        foretell(x, 5, 0, "1111000000");
        foretell(x, 0, 0, "11--------");
        foretell(x, 1, 0, "1100000000");
        foretell(x, 2, 0, "1110000000");
        foretell(x, 4, 0, "1111111111");
        x.age(5, 9);
        x.age(4, 8);
        // 0 and 4 are not alike by 10: 2 * 2 * 10 is not above 10 * 2 * 2, nor 4 * 10 * 10 above 10 * 4 * 10
        CHECK.due("it shares most with", x.source(5, 0, 10), 2);
        CHECK.due("by a lower ratio", x.source(5, 0, 9), 4);
        CHECK.due("by a higher one", x.source(5, 0, 24), 2);
        CHECK.due("none", x.source(5, 0, 25), RedSky.NONE);
    }

    private static void springs() {
        RedSky x = new RedSky();
        rain(x, 2, 0, "000000000000");
        foretell(x, 4, 0, "111000000000");
        foretell(x, 2, 0, "011100000000");
        foretell(x, 5, 0, "001110000000");
        foretell(x, 1, 0, "000111000000");
        x.age(1, 40);
        x.age(5, 30);
        x.age(2, 20);
        x.age(4, 10);
        x.age(0, 1);
        x.age(3, 1);
        CHECK.due("source", x.source(1, 2, 20), 5);
        CHECK.due("source", x.source(5, 2, 20), 2);
        CHECK.due("source", x.source(2, 2, 20), 4);
        CHECK.due("source", x.source(4, 2, 20), RedSky.NONE);
        CHECK.due("the last of them", x.spring(1, 2, 20), 4);
        CHECK.due("from the middle", x.spring(2, 2, 20), 4);
        CHECK.due("itself", x.spring(4, 2, 20), 4);
        CHECK.due("itself by a higher ratio", x.spring(1, 2, 90), 1);
        CHECK.due("itself in another VALLEY", x.spring(1, 0, 20), 1);
    }

    private static void refusals() {
        RedSky x = new RedSky();
        x.draw(0, 0, 1);
        long before = x.digest();
        int u = RedSky.UNKNOWN, o = RedSky.OUTSIDE;
        for (int a : new int[] {-1, 6, Integer.MAX_VALUE, Integer.MIN_VALUE}) {
            CHECK.due("draw", x.draw(a, 0, -1), u);
            CHECK.due("copy", x.copy(a, 0, 0, 0), u);
            CHECK.due("copy", x.copy(0, a, 0, 0), u);
            CHECK.due("copy", x.copy(a, a, 0, 1), u);
            CHECK.due("foretell", x.foretell(a, 0, 9), u);
            CHECK.due("wrong", x.wrong(a, 0), u);
            CHECK.due("shared", x.shared(a, 0, 0, 9), u);
            CHECK.due("shared", x.shared(0, a, 0, 9), u);
            CHECK.due("alike", x.alike(a, 0, 0, 0), u);
            CHECK.due("alike", x.alike(0, a, 0, 0), u);
            CHECK.due("source", x.source(a, 0, 0), u);
            CHECK.due("spring", x.spring(a, 0, 0), u);
        }
        for (int v : new int[] {-1, 3, Integer.MAX_VALUE, Integer.MIN_VALUE}) {
            CHECK.due("wrong", x.wrong(0, v), u);
            CHECK.due("shared", x.shared(0, 0, v, 9), u);
            CHECK.due("alike", x.alike(0, 0, v, 0), u);
            CHECK.due("source", x.source(0, v, 0), u);
            CHECK.due("spring", x.spring(0, v, 0), u);
        }
        CHECK.due("draw y", x.draw(0, 4, -1), u);
        CHECK.due("draw x", x.draw(0, 0, -1), o);
        CHECK.due("copy y", x.copy(0, 1, 4, 0), u);
        CHECK.due("copy stride", x.copy(0, 1, 0, 0), o);
        CHECK.due("copy stride", x.copy(0, 1, 0, 401), o);
        CHECK.due("copy itself", x.copy(0, 0, 0, 1), o);
        CHECK.due("foretell n", x.foretell(0, 1461, 9), u);
        CHECK.due("foretell n", x.foretell(0, -1, 0), u);
        CHECK.due("shared what", x.shared(0, 0, 0, 4), o);
        CHECK.due("shared what", x.shared(0, 0, 0, -1), o);
        for (int ratio : new int[] {0, 101, -1, Integer.MAX_VALUE}) {
            CHECK.due("alike ratio", x.alike(0, 0, 0, ratio), o);
            CHECK.due("source ratio", x.source(0, 0, ratio), o);
            CHECK.due("spring ratio", x.spring(0, 0, ratio), o);
        }
        CHECK.due("refusals change nothing", x.digest(), before);
    }
}
