import java.util.ArrayList;
import java.util.List;

/**
 * Refused calls of all promises: every number that is a call's own, on either side of what it may be, and every
 * two of them: which refusal comes first, and that nothing is changed. The numbers at the edges are taken.
 */
public final class RefusalTest {
    private static final Check CHECK = new Check("RefusalTest");
    private static final int U = RedSky.UNKNOWN, O = RedSky.OUTSIDE;
    private static final int[] VALLEY = {0, 2, U}, YEAR = {0, 3, U}, DAY = {0, 1460, U}, FIELD = {0, 3, U};
    // three SAYINGS stand
    private static final int[] SAYING = {0, 2, U}, ALMANAC = {0, 5, U}, SAINT = {0, 7, U};
    private static final int[] OF_YEARS = {0, 3, O}, MONTH = {1, 12, O}, DATE = {1, 31, O}, SEED = {0, Integer.MAX_VALUE, O};
    private static final int[] RATIO = {1, 100, O};

    public static void main(String[] args) {
        edges("first", OF_YEARS);
        edges("day", OF_YEARS, MONTH, DATE);
        edges("date", DAY, to(2));
        edges("saint", SAINT, MONTH, DATE, OF_YEARS, new int[] {-30, 30, O});
        edges("feast", SAINT, OF_YEARS);
        edges("write", VALLEY, YEAR, SEED, to(1000));
        edges("kept", VALLEY, YEAR);
        edges("asks", SAYING, to(11));
        edges("truth", SAYING, VALLEY, DAY, to(2));
        edges("cases", SAYING, VALLEY, OF_YEARS, OF_YEARS, to(3));
        edges("month", SAYING, VALLEY, MONTH, to(3));
        edges("expected", SAYING, VALLEY);
        edges("turned", SAYING, VALLEY, new int[] {1, 3, O}, to(1));
        edges("chance", SAYING, VALLEY);
        edges("parted", SAYING, SAYING, VALLEY);
        edges("one", SAYING, SAYING);
        edges("home", SAYING);
        edges("learn", VALLEY, SAYING, to(2), to(15));
        edges("list", to(5));
        edges("age", ALMANAC, to(9999));
        edges("draw", ALMANAC, YEAR, SEED);
        edges("foretell", ALMANAC, DAY, new int[] {-1, 1, O});
        edges("wrong", ALMANAC, VALLEY);
        edges("shared", ALMANAC, ALMANAC, VALLEY, to(3));
        edges("alike", ALMANAC, ALMANAC, VALLEY, RATIO);
        edges("source", ALMANAC, VALLEY, RATIO);
        edges("spring", ALMANAC, VALLEY, RATIO);
        edges("count", to(3));
        ownNumbers();
        fields();
        copies();
        yearsInOrder();
        lettersAndSayings();
        learnings();
        CHECK.end();
    }

    private static int[] to(int most) {
        return new int[] {0, most, O};
    }

    private static String told(String name, long[] args) {
        StringBuilder call = new StringBuilder(name).append('(');
        for (int i = 0; i < args.length; i++) {
            call.append(i == 0 ? "" : ", ").append(args[i]);
        }
        return call.append(')').toString();
    }

    /** Numbers that are refused: next to what is taken, and the ends of int. */
    private static List<Long> refusedOf(int[] kind) {
        List<Long> all = new ArrayList<>();
        for (long it : new long[] {kind[0] - 1L, kind[1] + 1L, Integer.MIN_VALUE, Integer.MAX_VALUE}) {
            boolean isInt = it >= Integer.MIN_VALUE && it <= Integer.MAX_VALUE;
            if (isInt && (it < kind[0] || it > kind[1])) {
                all.add(it);
            }
        }
        return all;
    }

    private static void refused(String call, long want) {
        Run.standing(CHECK, "refused").stays(call, want);
    }

    private static boolean isRefusal(long answer) {
        return answer <= RedSky.UNKNOWN && answer >= RedSky.FULL || answer == -10101 || answer == -100000001;
    }

    /** A call whose numbers are told by the least, the greatest that is taken, and the refusal. */
    private static void edges(String name, int[]... kinds) {
        long[] least = new long[kinds.length], most = new long[kinds.length];
        for (int i = 0; i < kinds.length; i++) {
            least[i] = kinds[i][0];
            most[i] = kinds[i][1];
        }
        for (int i = 0; i < kinds.length; i++) {
            for (long it : refusedOf(kinds[i])) {
                for (long[] others : new long[][] {least, most}) {
                    long[] args = others.clone();
                    args[i] = it;
                    refused(told(name, args), kinds[i][2]);
                    secondRefusals(name, args, i, kinds);
                }
            }
        }
        for (long[] args : new long[][] {least, most}) {
            long answer = Run.standing(CHECK, "taken").ask(told(name, args));
            CHECK.holds(told(name, args) + " is taken: " + answer, !isRefusal(answer));
        }
    }

    /** Of two refusals UNKNOWN comes ahead of OUTSIDE, whichever number stands first. */
    private static void secondRefusals(String name, long[] args, int i, int[][] kinds) {
        for (int j = i + 1; j < kinds.length; j++) {
            long[] both = args.clone();
            both[j] = refusedOf(kinds[j]).get(0);
            refused(told(name, both), kinds[i][2] == U || kinds[j][2] == U ? U : O);
        }
    }

    /** get() and worth() have refusals of their own. */
    private static void ownNumbers() {
        for (String call : new String[] {"get(-1, 0, 0)", "get(3, 0, 0)", "get(0, -1, 0)", "get(0, 1461, 0)",
            "get(0, 0, -1)", "get(0, 0, 4)", "get(MIN, 0, 0)", "get(MAX, 0, 0)", "get(0, MIN, 0)", "get(0, MAX, 0)",
            "get(0, 0, MIN)", "get(0, 0, MAX)", "get(3, 1461, 4)"}) {
            refused(call, -10101);
        }
        for (String call : new String[] {"worth(-1, 0)", "worth(3, 0)", "worth(0, -1)", "worth(0, 3)", "worth(MIN, 0)",
            "worth(MAX, 0)", "worth(0, MIN)", "worth(0, MAX)", "worth(3, 3)"}) {
            refused(call, -100000001);
        }
    }

    private static void fields() {
        int[][] ends = {{0, 3}, {0, 9}, {0, 99}, {-30, 40}};
        for (int f = 0; f < 4; f++) {
            for (String is : new String[] {"true", "false"}) {
                for (long w : new long[] {ends[f][0] - 1, ends[f][1] + 1, Integer.MIN_VALUE, Integer.MAX_VALUE, -1000}) {
                    refused("set(0, 5, " + f + ", " + w + ", " + is + ")", O);
                    refused("set(3, 5, " + f + ", " + w + ", " + is + ")", U);
                    refused("set(0, 1461, " + f + ", " + w + ", " + is + ")", U);
                }
            }
        }
        for (String where : new String[] {"-1, 0, 0", "3, 0, 0", "MIN, 0, 0", "MAX, 0, 0", "0, -1, 0", "0, 1461, 0",
            "0, MIN, 0", "0, MAX, 0", "0, 0, -1", "0, 0, 4", "0, 0, MIN", "0, 0, MAX"}) {
            refused("set(" + where + ", 0, true)", U);
            refused("set(" + where + ", 0, false)", U);
            refused("set(" + where + ", 100, true)", U);
        }
    }

    private static void copies() {
        for (long a : refusedOf(ALMANAC)) {
            refused(told("copy", new long[] {a, 0, 0, 1}), U);
            refused(told("copy", new long[] {0, a, 0, 1}), U);
            refused(told("copy", new long[] {a, a, 0, 1}), U);
            refused(told("copy", new long[] {a, 0, 0, 0}), U);
            refused(told("copy", new long[] {0, a, 0, 401}), U);
        }
        for (long y : refusedOf(YEAR)) {
            refused(told("copy", new long[] {0, 1, y, 1}), U);
            refused(told("copy", new long[] {0, 1, y, 0}), U);
            refused(told("copy", new long[] {1, 1, y, 1}), U);
        }
        for (long stride : new long[] {0, 401, -1, Integer.MIN_VALUE, Integer.MAX_VALUE}) {
            refused(told("copy", new long[] {2, 1, 1, stride}), O);
        }
        for (int a = 0; a < 6; a++) {
            refused(told("copy", new long[] {a, a, 1, 5}), O);
        }
        Run.standing(CHECK, "strides that are taken").due("copy(2, 0, 1, 1)", 365).due("copy(2, 0, 1, 400)", 365)
            .due("copy(0, 5, 3, 400)", 0).due("copy(5, 0, 0, 1)", 0);
    }

    private static void yearsInOrder() {
        for (int a = 0; a < 4; a++) {
            for (int b = 0; b < 4; b++) {
                String call = told("cases", new long[] {0, 0, a, b, 0});
                if (b < a) {
                    refused(call, O);
                } else {
                    CHECK.holds(call + " is taken", Run.standing(CHECK, "taken").ask(call) >= 0);
                }
            }
        }
    }

    private static void lettersAndSayings() {
        refused("letters(127)", O);
        refused("letters(255)", O);
        refused("letters(65536)", O);
        refused("say()", RedSky.STATE);
        Run r = Run.standing(CHECK, "THE PAGE is full");
        r.type("S".repeat(73)).due("count(1)", 80).stays("letters(83)", RedSky.FULL).stays("letters(127)", O);
        r.stays("letters(21331)", RedSky.FULL).stays("letters(65619)", O).due("letters(0)", 80);
        Run s = Run.standing(CHECK, "there are 8 SAYINGS");
        s.say("S=3:1~R>0", "S=4:1~R>0", "S=5:1~R>0", "S=6:1~R>0", "S=7:1~R>0").page("S=8:1~R>");
        s.stays("say()", RedSky.STATE).type("0").stays("say()", RedSky.FULL).due("count(1)", 9).due("count(0)", 8);
        s.due("forget()", 8).due("say()", 0).due("count(1)", 0);
    }

    private static void learnings() {
        Run r = Run.standing(CHECK, "learn() was done 12 times");
        for (int i = 3; i <= 12; i++) {
            r.go("learn(0, 1, 1, " + i + ")").due("count(3)", i);
        }
        r.stays("learn(0, 0, 0, 0)", RedSky.STATE).stays("learn(0, 0, 3, 0)", O).stays("learn(0, 0, 0, 16)", O);
        r.stays("learn(3, 0, 0, 0)", U).stays("learn(0, 3, 3, 16)", U).stays("learn(0, 0, 2, 15)", RedSky.STATE);
        r.due("count(3)", 12);
    }
}
