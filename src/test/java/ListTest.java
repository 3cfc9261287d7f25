/** Promises 27 to 29: learn, entry, list. */
public final class ListTest {
    private static final Check CHECK = new Check("ListTest");
    private static final int S = 0, W = 1, R = 2;

    public static void main(String[] args) {
        lastWords();
        oneEntry();
        twoEntriesInOrder();
        firstSayingFirst();
        lastWordOfAll();
        eighthSaying();
        forgottenDoNotTell();
        likeLists();
        halfIsNo();
        openFirstDoesNotTell();
        seasonsCount();
        judgedYears();
        keptAsItWas();
        twelveTimes();
        refusals();
        CHECK.end();
    }

    /** A DAY with sky and wind, and rain or none (-1: a gap). */
    private static void keep(RedSky x, int n, int s, int w, int r) {
        x.set(0, n, S, Math.max(s, 0), s >= 0);
        x.set(0, n, W, Math.max(w, 0), w >= 0);
        x.set(0, n, R, Math.max(r, 0), r >= 0);
    }

    private static void listIs(RedSky x, int... want) {
        for (int what = 0; what < want.length; what++) {
            CHECK.due("list(" + what + ")", x.list(what), want[what]);
        }
    }

    private static void entriesAre(RedSky x, int... want) {
        for (int i = 0; i < 2; i++) {
            CHECK.due("entry(" + i + ")", x.entry(i), i < want.length ? want[i] : RedSky.NONE);
        }
        CHECK.due("entry(-1)", x.entry(-1), RedSky.NONE);
        CHECK.due("entry(2)", x.entry(2), RedSky.NONE);
        CHECK.due("list(1)", x.list(1), want.length);
    }

    private static void lastWords() {
        RedSky x = new RedSky();
        Check.say(x, "S=1:0~R>0");
        CHECK.due("no list yet", x.list(5), RedSky.NONE);
        CHECK.due("no DAYS", x.learn(0, 0, 2, 15), 0);
        listIs(x, 0, 0, 0, 0, 0, 0);
        keep(x, 0, -1, -1, 1);
        keep(x, 1, -1, -1, 1);
        keep(x, 2, -1, -1, 0);
        keep(x, 400, -1, -1, 1);
        CHECK.due("YES", x.learn(0, 0, 0, 1), 2);
        listIs(x, 1, 0, 3, 2, 1, 1);
        entriesAre(x);
        CHECK.due("no YEARS", x.learn(0, 0, 2, 0), 0);
        listIs(x, 0, 0, 0, 0, 4, 1);
        CHECK.due("all YEARS", x.learn(0, 0, 2, 15), 3);
        listIs(x, 1, 0, 4, 3, 0, 0);
        CHECK.due("another VALLEY", x.learn(1, 0, 2, 15), 0);
        CHECK.due("count", x.count(3), 5);
    }

    private static void oneEntry() {
        RedSky x = new RedSky();
        Check.say(x, "S=1:0~R>0");
        Check.say(x, "W=1:9^T>0@#0");
        for (int n = 10; n < 15; n++) {
            keep(x, n, 0, n < 12 ? 1 : 0, n < 12 ? 1 : 0);
        }
        x.saint(0, 1, 12, 0, 0);
        CHECK.due("size 0", x.learn(0, 0, 0, 1), 3);
        entriesAre(x);
        CHECK.due("size 1", x.learn(0, 0, 1, 1), 4);
        entriesAre(x, 3);
        listIs(x, 0, 1, 5, 4, 0, 0);
        x.saint(0, 1, 13, 0, 0);
        CHECK.due("out of its season it does not tell", x.learn(0, 0, 1, 1), 3);
        entriesAre(x);
        CHECK.due("the TARGET's own season does not matter", x.learn(0, 1, 2, 15), 0);
    }

    private static void twoEntriesInOrder() {
        RedSky x = new RedSky();
        Check.say(x, "S>0:0~R>0");
        Check.say(x, "W=1:0~R>0");
        // wind tells dry ahead of the sky that tells wet, else dry
        int n = 0;
        for (int i = 0; i < 4; i++) {
            keep(x, n++, 1, 0, 1);
            keep(x, n++, 0, 0, 0);
            keep(x, n++, 1, 1, 0);
        }
        keep(x, n++, 0, 1, 0);
        CHECK.due("size 2", x.learn(0, 0, 2, 15), 13);
        entriesAre(x, 2, 1);
        listIs(x, 0, 2, 13, 13, 0, 0);
        CHECK.due("size 1", x.learn(0, 0, 1, 15), 9);
        entriesAre(x);
    }

    private static void firstSayingFirst() {
        RedSky x = new RedSky();
        Check.say(x, "W=1:0~R>0");
        Check.say(x, "S>0:0~R>0");
        int n = 0;
        for (int i = 0; i < 4; i++) {
            keep(x, n++, 1, 0, 1);
            keep(x, n++, 0, 0, 0);
            keep(x, n++, 1, 1, 0);
        }
        CHECK.due("size 2", x.learn(0, 1, 2, 15), 12);
        entriesAre(x, 0, 3);
    }

    private static void lastWordOfAll() {
        RedSky x = new RedSky();
        Check.say(x, "W=1:0~R>0");
        Check.say(x, "S=1:0~R>0");
        keep(x, 0, 0, 1, 1);
        keep(x, 1, 0, 1, 1);
        keep(x, 400, 1, 0, 1);
        keep(x, 401, 1, 0, 0);
        CHECK.due("no entry makes it better", x.learn(0, 0, 2, 1), 2);
        entriesAre(x);
        listIs(x, 1, 0, 2, 2, 2, 1);
    }

    private static void eighthSaying() {
        RedSky x = new RedSky();
        for (int k = 0; k < 7; k++) {
            Check.say(x, "S=3:0~R>0");
        }
        Check.say(x, "W=1:0~R>0");
        keep(x, 0, 0, 1, 1);
        keep(x, 1, 0, 0, 0);
        CHECK.due("the last one", x.learn(0, 0, 2, 15), 2);
        entriesAre(x, 15);
    }

    private static void forgottenDoNotTell() {
        RedSky x = new RedSky();
        Check.say(x, "S=3:0~R>0");
        Check.say(x, "W=1:0~R>0");
        keep(x, 0, 0, 1, 1);
        keep(x, 1, 0, 0, 0);
        CHECK.due("both", x.learn(0, 0, 2, 15), 2);
        entriesAre(x, 3);
        x.forget();
        Check.say(x, "S=3:0~R>0");
        CHECK.due("the one that is left", x.learn(0, 0, 2, 15), 1);
        entriesAre(x);
    }

    private static void likeLists() {
        RedSky x = new RedSky();
        Check.say(x, "S=3:0~R>0");
        Check.say(x, "W=1:0~R>0");
        Check.say(x, "!W=0:0~R>0");
        keep(x, 0, 0, 1, 1);
        keep(x, 1, 0, 0, 0);
        CHECK.due("fewest ENTRIES, the least SAYING", x.learn(0, 0, 2, 15), 2);
        entriesAre(x, 3);
        RedSky y = new RedSky();
        Check.say(y, "S=3:0~R>0");
        Check.say(y, "S=2:0~R>0");
        Check.say(y, "W=2:0~R>0");
        Check.say(y, "S=2|S=3:0~R>0");
        // sky 2 and wind 2 are wet each on their own, apart: both orders are as good
        keep(y, 0, 2, 0, 1);
        keep(y, 1, 0, 2, 1);
        keep(y, 2, 0, 0, 0);
        keep(y, 3, 0, 0, 0);
        keep(y, 4, 0, 0, 0);
        CHECK.due("the least first, then second", y.learn(0, 0, 2, 15), 5);
        entriesAre(y, 3, 5);
    }

    private static void halfIsNo() {
        RedSky x = new RedSky();
        Check.say(x, "W=1:0~R>0");
        keep(x, 0, 0, 0, 1);
        keep(x, 1, 0, 0, 0);
        CHECK.due("just half", x.learn(0, 0, 0, 15), 1);
        listIs(x, 0, 0, 2, 1, 0, 0);
        keep(x, 2, 0, 1, 1);
        keep(x, 3, 0, 1, 1);
        CHECK.due("an entry", x.learn(0, 0, 1, 15), 3);
        CHECK.due("no better than the last word alone", x.list(1), 0);
        keep(x, 4, 0, 0, 0);
        CHECK.due("an entry", x.learn(0, 0, 1, 15), 4);
        entriesAre(x, 1);
        CHECK.due("last word", x.list(0), 0);
    }

    private static void openFirstDoesNotTell() {
        RedSky x = new RedSky();
        Check.say(x, "!W=0:0~R>0");
        keep(x, 0, 0, -1, 1);
        keep(x, 1, 0, 1, 1);
        keep(x, 2, 0, 0, 0);
        keep(x, 3, 0, 0, 0);
        keep(x, 4, 0, 0, -1);
        CHECK.due("OPEN falls to the last word", x.learn(0, 0, 1, 15), 3);
        entriesAre(x, 1);
        listIs(x, 0, 1, 4, 3, 0, 0);
    }

    private static void seasonsCount() {
        RedSky x = new RedSky();
        Check.say(x, "W=1:0~R>0@2-2");
        keep(x, 0, 0, 1, 0);
        keep(x, 1, 0, 1, 0);
        keep(x, 40, 0, 1, 1);
        CHECK.due("in February alone", x.learn(0, 0, 1, 1), 3);
        entriesAre(x, 1);
    }

    private static void judgedYears() {
        RedSky x = new RedSky();
        Check.say(x, "W=1:0~R>0");
        for (int y = 0; y < 4; y++) {
            int n = x.day(y, 3, 1);
            keep(x, n, 0, 1, y == 3 ? 0 : 1);
            keep(x, n + 1, 0, 0, 0);
            keep(x, n + 2, 0, 0, y == 2 ? 1 : 0);
        }
        CHECK.due("learned on 0 and 2", x.learn(0, 0, 1, 5), 5);
        listIs(x, 0, 1, 6, 5, 6, 5);
        CHECK.due("learned on 3", x.learn(0, 0, 1, 8), 3);
        listIs(x, 0, 0, 3, 3, 9, 5);
    }

    private static void keptAsItWas() {
        RedSky x = new RedSky();
        Check.say(x, "W=1:0~R>0");
        keep(x, 0, 0, 1, 1);
        keep(x, 1, 0, 0, 0);
        keep(x, 365, 0, 1, 1);
        x.learn(0, 0, 2, 1);
        x.set(0, 365, R, 0, true);
        CHECK.due("refused", x.learn(0, 0, 3, 1), RedSky.OUTSIDE);
        x.forget();
        x.first(2);
        entriesAre(x, 1);
        listIs(x, 0, 1, 2, 2, 1, 1);
        CHECK.due("count", x.count(3), 1);
    }

    private static void twelveTimes() {
        RedSky x = new RedSky();
        Check.say(x, "W=1:0~R>0");
        for (int i = 1; i <= 12; i++) {
            CHECK.due("learn", x.learn(0, 0, 0, 0), 0);
            CHECK.due("count", x.count(3), i);
        }
        long before = x.digest();
        CHECK.due("STATE", x.learn(0, 0, 0, 0), RedSky.STATE);
        CHECK.due("OUTSIDE comes ahead", x.learn(0, 0, 3, 0), RedSky.OUTSIDE);
        CHECK.due("UNKNOWN comes ahead", x.learn(0, 1, 3, 0), RedSky.UNKNOWN);
        CHECK.due("refusals change nothing", x.digest(), before);
        CHECK.due("count", x.count(3), 12);
    }

    private static void refusals() {
        RedSky x = new RedSky();
        Check.say(x, "W=1:0~R>0");
        CHECK.due("v", x.learn(3, 0, 9, 99), RedSky.UNKNOWN);
        CHECK.due("v", x.learn(-1, 0, 0, 0), RedSky.UNKNOWN);
        CHECK.due("target", x.learn(0, 1, 9, 99), RedSky.UNKNOWN);
        CHECK.due("target", x.learn(0, -1, 0, 0), RedSky.UNKNOWN);
        CHECK.due("size", x.learn(0, 0, 3, 0), RedSky.OUTSIDE);
        CHECK.due("size", x.learn(0, 0, -1, 0), RedSky.OUTSIDE);
        CHECK.due("years", x.learn(0, 0, 0, 16), RedSky.OUTSIDE);
        CHECK.due("years", x.learn(0, 0, 0, -1), RedSky.OUTSIDE);
        CHECK.due("count", x.count(3), 0);
        CHECK.due("list", x.list(0), RedSky.NONE);
        CHECK.due("list", x.list(6), RedSky.OUTSIDE);
        CHECK.due("list", x.list(-1), RedSky.OUTSIDE);
        CHECK.due("entry", x.entry(0), RedSky.NONE);
        CHECK.due("entry", x.entry(Integer.MIN_VALUE), RedSky.NONE);
        CHECK.due("entry", x.entry(Integer.MAX_VALUE), RedSky.NONE);
    }
}
