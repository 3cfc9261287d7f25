/** The boundary cases of promises 39 and 40, each sentence a run of its own. */
public final class ToldEdgesTest {
    private static final Check CHECK = new Check("ToldEdgesTest");

    public static void main(String[] args) {
        countsAtTheEnds();
        countsFull();
        digestOfNothing();
        digestOfOneThing();
        digestInOrder();
        digestOfAFullObject();
        digestOfWhatIsNotTold();
        digestAfterFirst();
        lastOfTheCalls();
        objectsApart();
        CHECK.end();
    }

    private static Run run(String name) {
        return new Run(CHECK, name);
    }

    // ---- promise 39

    private static void countsAtTheEnds() {
        run("of a new object").eachDue("count(?)", 0, 0, 1, 0).stays("count(-1)", RedSky.OUTSIDE).stays("count(4)", RedSky.OUTSIDE)
            .stays("count(MIN)", RedSky.OUTSIDE).stays("count(MAX)", RedSky.OUTSIDE);
    }

    private static void countsFull() {
        Run r = run("full").say("S=1:0~R>0", "S=1:0~R>0", "S=1:0~R>0", "S=1:0~R>0", "S=1:0~R>0", "S=1:0~R>0", "S=1:0~R>0", "S=1:0~R>0");
        r.type("S".repeat(80)).go("first(3)");
        for (int i = 0; i < 13; i++) {
            r.go("learn(0, 7, 0, 0)");
        }
        r.eachDue("count(?)", 8, 80, 3, 12).go("say()", "letters(83)", "first(4)").eachDue("count(?)", 8, 80, 3, 12);
        r.go("forget()", "blank()", "first(0)").eachDue("count(?)", 0, 0, 0, 12);
    }

    // ---- promise 40

    private static long mixed(long h, long... numbers) {
        for (long it : numbers) {
            h = 31 * h + it;
        }
        return h;
    }

    /** The digest up to the SAINTS. */
    private static long head(int first) {
        long h = mixed(199, first);
        for (int s = 0; s < 8; s++) {
            h = mixed(h, 1, 1, 0, 0);
        }
        return h;
    }

    /** AGE 0 of six ALMANACS, and how often learn() was done. */
    private static long tail(long h, int learned) {
        return mixed(h, 0, 0, 0, 0, 0, 0, learned);
    }

    private static void digestOfNothing() {
        run("a new object").due("digest()", tail(head(1), 0)).due("digest()", tail(head(1), 0));
        for (int f = 0; f < 4; f++) {
            run("FIRST").go("first(" + f + ")").due("digest()", tail(head(f), 0));
        }
        CHECK.due("as longs, wrapping: 40 numbers", tail(head(1), 0), -5778927872005227098L);
    }

    private static void digestOfOneThing() {
        for (int n : new int[] {0, 1460}) {
            int[][] ends = {{0, 3}, {0, 9}, {0, 99}, {-30, 40}};
            for (int f = 0; f < 4; f++) {
                for (int w : ends[f]) {
                    run("2048 n and 256 f and it").go("set(1, " + n + ", " + f + ", " + w + ", true)")
                        .due("digest()", tail(mixed(head(1), 2048L * n + 256 * f + w), 0));
                }
            }
            for (int w = 0; w < 2; w++) {
                run("2 n and it").go("foretell(0, " + n + ", " + w + ")")
                    .due("digest()", mixed(head(1), 0, 2L * n + w, 0, 0, 0, 0, 0, 0));
                run("2 n and it").go("foretell(5, " + n + ", " + w + ")")
                    .due("digest()", mixed(head(1), 0, 0, 0, 0, 0, 0, 2L * n + w, 0));
            }
        }
        run("a SAINT").go("saint(0, 12, 31, 3, 30)")
            .due("digest()", saintsFrom(mixed(199, 1, 12, 31, 3, 30), 1));
        run("a SAINT").go("saint(0, 2, 30, 1, -30)")
            .due("digest()", saintsFrom(mixed(199, 1, 2, 30, 1, -30), 1));
        run("letters").type("\1~S").due("digest()", tail(mixed(head(1), 1, 126, 83), 0));
        run("a SAYING").say("S=1:0~R>0").due("digest()", tail(mixed(head(1), 1, 4, 0, 0, 0, -1, -1, -1, 1, 1, 1, 1), 0));
        run("AGE").go("age(2, 9999)").due("digest()", mixed(head(1), 0, 0, 9999, 0, 0, 0, 0));
        run("learn() was done").say("S=1:0~R>0").go("learn(0, 0, 2, 15)", "learn(0, 0, 2, 15)", "learn(0, 0, 3, 15)", "forget()")
            .due("digest()", tail(head(1), 2));
    }

    private static long saintsFrom(long h, int from) {
        for (int s = from; s < 8; s++) {
            h = mixed(h, 1, 1, 0, 0);
        }
        return tail(h, 0);
    }

    private static void digestInOrder() {
        Run r = run("VALLEYS, DAYS, FIELDS, letters, SAYINGS, ALMANACS in order");
        r.go("foretell(5, 3, 1)", "foretell(1, 1460, 0)", "foretell(1, 0, 1)", "age(1, 7)", "age(5, 4)");
        r.go("set(2, 0, 3, -30, true)", "set(2, 0, 0, 1, true)", "set(0, 1460, 2, 5, true)", "set(0, 3, 1, 9, true)", "set(1, 8, 3, 40, true)");
        r.go("set(0, 3, 0, 0, true)").say("T=1:9^W<2@#7", "W=1:0-3~S>0@12-1").type("S=").go("learn(1, 0, 0, 0)");
        long h = mixed(head(1), 3 * 2048, 3 * 2048 + 256 + 9, 1460 * 2048 + 512 + 5, 8 * 2048 + 768 + 40, 1, 768 - 30, 'S', '=');
        h = mixed(h, 8, 2, 9, 9, 1, -1, -1, 7, 1, 1, 1, 1, 2, 1, 0, 3, 0, 12, 1, -1, 1, 1, 1, 1);
        r.due("digest()", mixed(h, 0, 7, 1, 2920, 0, 0, 0, 4, 7, 1));
        r.go("set(0, 3, 1, 9, false)", "foretell(1, 0, -1)", "blank()");
        h = mixed(head(1), 3 * 2048, 1460 * 2048 + 512 + 5, 8 * 2048 + 768 + 40, 1, 768 - 30);
        h = mixed(h, 8, 2, 9, 9, 1, -1, -1, 7, 1, 1, 1, 1, 2, 1, 0, 3, 0, 12, 1, -1, 1, 1, 1, 1);
        r.due("digest()", mixed(h, 0, 7, 2920, 0, 0, 0, 4, 7, 1));
    }

    private static void digestOfAFullObject() {
        Run r = run("all YEARS written and drawn");
        long h = head(1);
        for (int v = 0; v < 3; v++) {
            int n = 0;
            for (int y = 0; y < 4; y++) {
                r.go("write(" + v + ", " + y + ", " + (10 * v + y) + ", " + 9 * v + ")");
                long x = 10L * v + y;
                for (int i = 0; i < (y == 3 ? 366 : 365); i++, n++) {
                    for (int f = 0; f < 4; f++) {
                        x = (x * 1103515245L + 12345L) % 2147483648L;
                        long z = x / 65536;
                        long w = f == 0 ? z % 4 : f == 1 ? z % 10 : f == 2 ? (z % 3 == 0 ? 0 : z % 100) : z % 71 - 30;
                        if (v == 0 || x / 256 % (9 * v) != 0) {
                            h = mixed(h, 2048L * n + 256 * f + w);
                        }
                    }
                }
            }
        }
        for (int a = 0; a < 6; a++) {
            h = mixed(h, a);
            r.go("age(" + a + ", " + a + ")");
            int n = 0;
            for (int y = 0; y < 4; y++) {
                r.go("draw(" + a + ", " + y + ", " + (5 * a + y) + ")");
                long x = 5L * a + y;
                for (int i = 0; i < (y == 3 ? 366 : 365); i++, n++) {
                    x = (x * 1103515245L + 12345L) % 2147483648L;
                    h = mixed(h, 2L * n + x / 65536 % 2);
                }
            }
        }
        r.due("digest()", mixed(h, 0));
    }

    private static void digestOfWhatIsNotTold() {
        for (String call : new String[] {"day(0, 1, 1)", "date(0, 0)", "feast(0, 0)", "get(0, 0, 0)", "kept(0, 0)", "letters(0)",
            "blank()", "say()", "good()", "asks(0, 0)", "truth(0, 0, 0, 0)", "cases(0, 0, 0, 3, 0)", "month(0, 0, 1, 0)",
            "expected(0, 0)", "worth(0, 0)", "turned(0, 0, 1, 0)", "chance(0, 0)", "parted(0, 0, 0)", "one(0, 0)", "home(0)",
            "entry(0)", "list(0)", "wrong(0, 0)", "shared(0, 1, 0, 0)", "alike(0, 1, 0, 1)", "source(1, 0, 1)",
            "spring(1, 0, 1)", "count(0)"}) {
            Run r = run("what is asked changes nothing").say("S=1:0~R>0");
            r.go("write(0, 0, 1, 5)", "draw(0, 0, 2)", "draw(1, 0, 3)", "age(1, 2)", "learn(0, 0, 0, 1)");
            String before = r.told();
            r.go(call);
            CHECK.holds(call + " changes nothing", r.told().equals(before));
        }
    }

    private static void digestAfterFirst() {
        Run r = run("gaps are not told").go("write(0, 0, 1, 0)", "write(2, 3, 1, 0)", "draw(0, 0, 1)", "draw(5, 3, 1)", "first(1)");
        r.due("digest()", tail(head(1), 0)).go("write(0, 0, 1, 1)").due("digest()", tail(head(1), 0));
    }

    private static void lastOfTheCalls() {
        Run r = run("the 512th call").say("S=1:0~R>0").go("write(0, 0, 1, 5)");
        long before = r.ask("digest()");
        for (int calls = 7; calls < 511; calls++) {
            r.go(calls % 2 == 0 ? "home(0)" : "set(0, 1460, 3, 41, true)");
        }
        r.due("digest()", before);
    }

    private static void objectsApart() {
        Run one = run("two objects have nothing in common"), other = run("two objects have nothing in common");
        one.say("S=1:0~R>0").type("S=").go("first(3)", "saint(0, 2, 3, 1, 4)", "write(0, 0, 1, 0)", "draw(0, 0, 1)", "age(0, 9)", "learn(0, 0, 0, 1)");
        long before = one.ask("digest()");
        other.due("digest()", tail(head(1), 0)).eachDue("list(?)", -1, -1, -1).say("T=1:9~W>0").go("first(2)", "age(0, 3)", "write(0, 0, 5, 0)");
        one.due("digest()", before);
    }
}
