import java.lang.reflect.InvocationTargetException;
import java.lang.reflect.Method;
import java.util.Arrays;
import java.util.Random;

/** Runs of random calls on RedSky and on PlainModel side by side: every answer must be the same. */
public final class ModelTest {
    private static final int CALLS = 512;
    // what arguments mean: v VALLEY, y YEAR, n DAY, m MONTH, d DATE, f FIELD, k SAYING, a ALMANAC,
    // s SAINT, x SEED, g GAPS, w what, t of 0 to 4, i small, r RATIO, j stride, o moved, A AGE, p set of YEARS
    private static final String[] CALL_KINDS = {
        "first t", "day ymd", "date nw", "saint smdyo", "feast sy", "write vyxg", "set vnfib", "get vnf", "kept vy",
        "blank ", "say ", "good ", "asks kW", "forget ", "truth kvni", "cases kvyyw", "month kvmw", "expected kv",
        "worth kv", "turned kvti", "chance kv", "parted kkv", "one kk", "home k", "learn vkip", "entry i", "list W",
        "age aA", "draw ayx", "copy aayj", "foretell ani", "wrong av", "shared aavw", "alike aavr", "source avr",
        "spring avr", "count w", "digest "};

    private final Random random;
    private final Check check;
    private RedSky x = new RedSky();
    private PlainModel plain = new PlainModel();
    private int run;
    private int calls = 0;

    private ModelTest(Check check, int run) {
        this.check = check;
        this.run = run;
        this.random = new Random(run);
    }

    public static void main(String[] args) throws Exception {
        int runs = args.length > 1 ? Integer.parseInt(args[1]) : 120;
        Check check = new Check("ModelTest");
        for (int run = 1; run <= runs; run++) {
            new ModelTest(check, run).go();
        }
        check.end();
    }

    private void go() throws Exception {
        boolean calm = run % 4 != 0;
        for (int i = 0; i < 20; i++) {
            call("write", random.nextInt(3), random.nextInt(4), random.nextInt() >>> 1,
                random.nextBoolean() ? 0 : random.nextInt(1001));
        }
        for (int i = 0; i < 8; i++) {
            call("draw", random.nextInt(6), random.nextInt(4), random.nextInt() >>> 1);
        }
        // a text takes 15 calls at most, and the digest is the last
        while (calls <= CALLS - 16) {
            if (random.nextInt(calm ? 9 : 3) == 0) {
                text(calm);
                continue;
            }
            String kind = CALL_KINDS[random.nextInt(CALL_KINDS.length)];
            String name = kind.substring(0, kind.indexOf(' '));
            boolean destroys = name.equals("first") || name.equals("forget");
            if (destroys && random.nextInt(12) > 0) {
                continue;
            }
            call(name, arguments(kind.substring(kind.indexOf(' ') + 1)));
        }
        call("digest");
    }

    /** A SAYING, or something like one, comes on THE PAGE. */
    private void text(boolean calm) throws Exception {
        String text = condition(random.nextInt(4)) + ":" + span() + (random.nextBoolean() ? "~" : "^")
            + condition(random.nextInt(3)) + season();
        if (random.nextInt(4) == 0) {
            text = spoiled(text);
        }
        if (calm || random.nextBoolean()) {
            call("blank");
        }
        for (int i = 0; i < text.length() && i < 88; i += 8) {
            call("letters", Check.packed(text.substring(i, Math.min(i + 8, text.length()))));
        }
        if (random.nextInt(8) == 0) {
            call("letters", random.nextLong() & 0x7f7f7f7f7f7f7f7fL);
        }
        call("good");
        call("say");
    }

    private String condition(int depth) {
        StringBuilder text = new StringBuilder();
        for (int i = random.nextInt(3); i >= 0; i--) {
            text.append(factor(depth));
            if (i > 0) {
                text.append(random.nextBoolean() ? '&' : '|');
            }
        }
        return text.toString();
    }

    private String factor(int depth) {
        if (depth > 0 && random.nextInt(3) == 0) {
            return "!" + factor(depth - 1);
        }
        if (depth > 0 && random.nextInt(2) == 0) {
            return "(" + condition(depth - 1) + ")";
        }
        int f = random.nextInt(4);
        int[] spread = {4, 10, 100, 71};
        int number = random.nextInt(spread[f] + 2) - 1 - (f == 3 ? 30 : 0);
        return "SWRT".substring(f, f + 1) + "<=>".charAt(random.nextInt(3)) + number;
    }

    private String span() {
        int from = random.nextInt(10);
        return random.nextBoolean() ? "" + from : from + "-" + (from + random.nextInt(10 - from));
    }

    private String season() {
        switch (random.nextInt(4)) {
            case 0: return "@" + (1 + random.nextInt(12)) + "-" + (1 + random.nextInt(12));
            case 1: return "@0" + (1 + random.nextInt(9)) + "-0" + (10 + random.nextInt(3));
            case 2: return "@#" + random.nextInt(8);
            default: return "";
        }
    }

    private String spoiled(String text) {
        int at = random.nextInt(text.length());
        String sign = "SWRT<=>!&|()~^@#:-0123456789 ~".substring(random.nextInt(29));
        switch (random.nextInt(4)) {
            case 0: return text.substring(0, at);
            case 1: return text.substring(0, at) + sign.charAt(0) + text.substring(at);
            case 2: return text.substring(0, at) + sign.charAt(0) + text.substring(at + 1);
            default: return text.substring(0, at) + text.substring(at + 1);
        }
    }

    private Object[] arguments(String kinds) {
        Object[] all = new Object[kinds.length()];
        for (int i = 0; i < all.length; i++) {
            all[i] = kinds.charAt(i) == 'b' ? (Object) random.nextBoolean() : (Object) argument(kinds.charAt(i));
        }
        return all;
    }

    private Integer argument(char kind) {
        if (random.nextInt(40) == 0) {
            int[] odd = {-1, Integer.MIN_VALUE, Integer.MAX_VALUE, 4, 8, 13, 32, 101, 401, 1001, 1461, 10000};
            return odd[random.nextInt(odd.length)];
        }
        switch (kind) {
            case 'v': return random.nextInt(3);
            case 'y': return random.nextInt(4);
            case 'n': return random.nextInt(8) == 0 ? 1460 - random.nextInt(12) : random.nextInt(1461);
            case 'm': return random.nextInt(3) == 0 ? 2 : 1 + random.nextInt(12);
            case 'd': return random.nextInt(3) == 0 ? 28 + random.nextInt(4) : 1 + random.nextInt(31);
            case 'f': return random.nextInt(4);
            case 'k': return random.nextInt(Math.max(1, plain.count(0)));
            case 'a': return random.nextInt(6);
            case 's': return random.nextInt(8);
            case 'x': return random.nextInt() >>> 1;
            case 'g': return random.nextInt(3) == 0 ? 0 : random.nextInt(1001);
            case 'w': return random.nextInt(4);
            case 'W': return random.nextInt(12);
            case 't': return random.nextInt(4);
            case 'i': return random.nextInt(4) - 1;
            case 'r': return 1 + random.nextInt(40);
            case 'j': return 1 + random.nextInt(400);
            case 'o': return random.nextInt(61) - 30;
            case 'A': return random.nextInt(10);
            default: return random.nextInt(16);
        }
    }

    private void call(String name, Object... args) throws Exception {
        calls++;
        long got = answer(RedSky.class, x, name, args);
        long want = answer(PlainModel.class, plain, name, args);
        check.due("run " + run + ": " + name + Arrays.toString(args), got, want);
    }

    private static long answer(Class<?> c, Object on, String name, Object[] args) throws Exception {
        for (Method m : c.getDeclaredMethods()) {
            boolean isPrivate = java.lang.reflect.Modifier.isPrivate(m.getModifiers());
            if (m.getName().equals(name) && m.getParameterCount() == args.length && !isPrivate) {
                try {
                    return ((Number) m.invoke(on, args)).longValue();
                } catch (InvocationTargetException e) {
                    throw new IllegalStateException(name + Arrays.toString(args), e.getCause());
                }
            }
        }
        throw new IllegalStateException("no " + name);
    }
}
