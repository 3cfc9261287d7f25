import java.math.BigInteger;

/** The boundary cases of promises 7 to 10, each sentence a run of its own. */
public final class DiaryEdgesTest {
    private static final Check CHECK = new Check("DiaryEdgesTest");
    private static final BigInteger FACTOR = BigInteger.valueOf(1103515245), MORE = BigInteger.valueOf(12345);
    private static final BigInteger WRAP = BigInteger.ONE.shiftLeft(31);

    public static void main(String[] args) {
        seedsAtTheEnds();
        numbersAtTheEnds();
        gapsByMultiples();
        howManyGaps();
        writtenOver();
        thatYearAlone();
        longYear();
        setAtTheEnds();
        setToAGap();
        noneIsNoNumber();
        everyPlace();
        keptAtTheSeams();
        CHECK.end();
    }

    private static Run run(String name) {
        return new Run(CHECK, name);
    }

    private static long next(long x) {
        return BigInteger.valueOf(x).multiply(FACTOR).add(MORE).mod(WRAP).longValueExact();
    }

    /** The SEED from which x is reached by so many steps. */
    private static long seedFor(long x, int steps) {
        BigInteger seed = BigInteger.valueOf(x);
        for (int i = 0; i < steps; i++) {
            seed = seed.subtract(MORE).multiply(FACTOR.modInverse(WRAP)).mod(WRAP);
        }
        return seed.longValueExact();
    }

    // ---- promise 7

    private static void seedsAtTheEnds() {
        for (long seed : new long[] {0, 1, 2147483646, 2147483647}) {
            Run r = run("x becomes 1103515245 times x and 12345, its lower 31 binary figures alone");
            r.due("write(2, 1, " + seed + ", 0)", 0);
            long x = seed;
            for (int n = 365; n < 480; n++) {
                long[] z = new long[4];
                for (int f = 0; f < 4; f++) {
                    x = next(x);
                    z[f] = x >> 16;
                }
                r.eachDue("get(2, " + n + ", ?)", z[0] % 4, z[1] % 10, z[2] % 3 == 0 ? 0 : z[2] % 100, z[3] % 71 - 30);
            }
        }
    }

    /** What WRITING puts into a FIELD of the first DAY, if its x is z times 65536 and some more. */
    private static void written(int f, long z, long want) {
        for (long more : new long[] {0, 65535}) {
            long seed = seedFor(z * 65536 + more, f + 1);
            run("z is " + z).due("write(0, 0, " + seed + ", 0)", 0).due("get(0, 0, " + f + ")", want);
        }
    }

    private static void numbersAtTheEnds() {
        written(0, 0, 0);
        written(0, 3, 3);
        written(0, 4, 0);
        written(0, 32767, 3);
        written(1, 0, 0);
        written(1, 9, 9);
        written(1, 10, 0);
        written(1, 32767, 7);
        written(2, 0, 0);
        written(2, 1, 1);
        written(2, 3, 0);
        written(2, 98, 98);
        // 99 is a multiple of 3, 199 is not; 100 is 0 modulo 100, though no multiple of 3
        written(2, 99, 0);
        written(2, 199, 99);
        written(2, 100, 0);
        written(2, 101, 1);
        written(2, 32767, 67);
        written(3, 0, -30);
        written(3, 29, -1);
        written(3, 30, 0);
        written(3, 70, 40);
        written(3, 71, -30);
        written(3, 32767, 32767 % 71 - 30);
    }

    private static void gap(long x, int g, boolean isGap) {
        String call = "write(1, 0, " + seedFor(x, 1) + ", " + g + ")";
        Run r = run("x is " + x + ", G is " + g).go(call);
        CHECK.due(call + ": x is " + x, r.ask("get(1, 0, 0)") == -1000 ? 1 : 0, isGap ? 1 : 0);
    }

    private static void gapsByMultiples() {
        gap(0, 1000, true);
        gap(255, 1000, true);
        gap(256, 1000, false);
        gap(999 * 256 + 255, 1000, false);
        gap(1000 * 256, 1000, true);
        gap(1000 * 256 + 255, 1000, true);
        gap(1001 * 256, 1000, false);
        gap(0, 0, false);
        gap(255, 0, false);
        gap(256, 1, true);
        gap(2147483647, 1, true);
        gap(2147483647, 2, false);
        gap(2147483647 - 256, 2, true);
        gap(6 * 256, 3, true);
        gap(7 * 256, 3, false);
        gap(8 * 256 + 255, 3, false);
    }

    private static void howManyGaps() {
        for (int g : new int[] {0, 1, 2, 7, 999, 1000}) {
            long x = 424242;
            int gaps = 0;
            for (int i = 0; i < 1460; i++) {
                x = next(x);
                gaps += g > 0 && x / 256 % g == 0 ? 1 : 0;
            }
            run("how many gaps it has then, G is " + g).due("write(0, 2, 424242, " + g + ")", gaps).due("kept(0, 2)", 1460 - gaps);
        }
    }

    private static void writtenOver() {
        run("gaps come over numbers, and numbers over gaps").due("write(0, 0, 5, 0)", 0).due("kept(0, 0)", 1460)
            .due("write(0, 0, 5, 1)", 1460).due("kept(0, 0)", 0).eachDue("get(0, 0, ?)", -1000, -1000, -1000, -1000)
            .due("write(0, 0, 5, 0)", 0).due("kept(0, 0)", 1460);
        Run twice = run("the same WRITING twice").go("write(1, 1, 99, 30)");
        long once = twice.ask("digest()");
        twice.due("write(1, 1, 99, 30)", 1460 - twice.ask("kept(1, 1)")).due("digest()", once);
    }

    private static void thatYearAlone() {
        for (int y = 0; y < 4; y++) {
            Run r = run("that YEAR of that VALLEY alone");
            int start = 365 * y, end = y == 3 ? 1461 : start + 365;
            if (y > 0) {
                r.go("set(1, " + (start - 1) + ", 3, -30, true)");
            }
            if (y < 3) {
                r.go("set(1, " + end + ", 0, 3, true)");
            }
            r.go("write(1, " + y + ", 5, 0)");
            for (int other = 0; other < 4; other++) {
                boolean touches = other == y - 1 || other == y + 1;
                r.due("kept(1, " + other + ")", other == y ? 4 * (end - start) : touches ? 1 : 0);
                r.due("kept(0, " + other + ")", 0).due("kept(2, " + other + ")", 0);
            }
            r.due("write(1, " + y + ", 5, 1)", 4 * (end - start));
            if (y > 0) {
                r.due("get(1, " + (start - 1) + ", 3)", -30);
            }
            if (y < 3) {
                r.due("get(1, " + end + ", 0)", 3);
            }
        }
    }

    private static void longYear() {
        for (int f = 0; f < 4; f++) {
            Run r = run("the long YEAR has a DAY more").go("first(" + f + ")");
            for (int y = 0; y < 4; y++) {
                int fields = (f + y) % 4 == 0 ? 1464 : 1460;
                r.due("write(2, " + y + ", 3, 1)", fields).due("write(2, " + y + ", 3, 0)", 0).due("kept(2, " + y + ")", fields);
            }
        }
    }

    // ---- promises 8 and 9

    private static void setAtTheEnds() {
        int[][] ends = {{0, 3}, {0, 9}, {0, 99}, {-30, 40}};
        for (int f = 0; f < 4; f++) {
            String field = "set(0, 9, " + f + ", ";
            Run r = run("FIELD " + f + " takes the least and the greatest number");
            r.due(field + ends[f][0] + ", true)", 0).due("get(0, 9, " + f + ")", ends[f][0]);
            r.stays(field + (ends[f][0] - 1) + ", true)", RedSky.OUTSIDE);
            r.due(field + ends[f][1] + ", true)", 1).due("get(0, 9, " + f + ")", ends[f][1]);
            r.stays(field + (ends[f][1] + 1) + ", true)", RedSky.OUTSIDE);
            r.due(field + ends[f][0] + ", true)", 1).due("get(0, 9, " + f + ")", ends[f][0]).due("kept(0, 0)", 1);
            for (int other = 0; other < 4; other++) {
                r.due("get(0, 9, " + other + ")", other == f ? ends[f][0] : -1000);
            }
        }
    }

    private static void setToAGap() {
        Run r = run("a FIELD becomes a gap: 1 if it was a number, else 0");
        r.due("set(2, 1460, 3, -30, false)", 0).due("set(2, 1460, 3, -30, true)", 0).due("set(2, 1460, 3, 40, false)", 1);
        r.due("get(2, 1460, 3)", -1000).due("kept(2, 3)", 0).due("set(2, 1460, 3, 40, false)", 0);
        r.due("set(2, 1460, 3, 0, true)", 0).due("get(2, 1460, 3)", 0).due("set(2, 1460, 3, 0, true)", 1);
        Run s = run("w is OUTSIDE for a gap, too").go("set(0, 0, 0, 2, true)");
        s.stays("set(0, 0, 0, 4, false)", RedSky.OUTSIDE).stays("set(0, 0, 0, -1, false)", RedSky.OUTSIDE);
        s.due("get(0, 0, 0)", 2).due("set(0, 0, 0, 3, false)", 1).due("get(0, 0, 0)", -1000);
    }

    private static void noneIsNoNumber() {
        run("-1 is a number of T alone").due("set(0, 0, 3, -1, true)", 0).due("get(0, 0, 3)", -1).due("set(0, 0, 3, -1, true)", 1)
            .due("kept(0, 0)", 1).stays("set(0, 0, 0, -1, true)", RedSky.OUTSIDE).stays("set(0, 0, 1, -1, true)", RedSky.OUTSIDE)
            .stays("set(0, 0, 2, -1, true)", RedSky.OUTSIDE).stays("set(0, 0, 3, -1000, true)", RedSky.OUTSIDE);
    }

    private static void everyPlace() {
        Run r = run("each VALLEY, DAY and FIELD has a place of its own");
        int i = 0;
        for (int v = 0; v < 3; v++) {
            for (int n : new int[] {0, 1, 729, 730, 1459, 1460}) {
                for (int f = 0; f < 4; f++) {
                    r.due("set(" + v + ", " + n + ", " + f + ", " + i++ % 4 + ", true)", 0);
                }
            }
        }
        i = 0;
        for (int v = 0; v < 3; v++) {
            for (int n : new int[] {0, 1, 729, 730, 1459, 1460}) {
                r.eachDue("get(" + v + ", " + n + ", ?)", i++ % 4, i++ % 4, i++ % 4, i++ % 4);
            }
            r.eachDue("kept(" + v + ", ?)", 8, 4, 4, 8);
        }
    }

    // ---- promise 10

    private static void keptAtTheSeams() {
        Run r = run("FIELDS of a VALLEY and a YEAR that are no gaps");
        r.go("set(0, 364, 0, 0, true)").eachDue("kept(0, ?)", 1, 0, 0, 0);
        r.go("set(0, 365, 1, 0, true)").eachDue("kept(0, ?)", 1, 1, 0, 0);
        r.go("set(0, 1094, 2, 0, true)").eachDue("kept(0, ?)", 1, 1, 1, 0);
        r.go("set(0, 1095, 3, 0, true)").eachDue("kept(0, ?)", 1, 1, 1, 1);
        r.go("set(0, 1460, 0, 0, true)").eachDue("kept(0, ?)", 1, 1, 1, 2);
        r.go("set(0, 0, 0, 0, true)").eachDue("kept(0, ?)", 2, 1, 1, 2);
        r.go("set(0, 0, 0, 0, false)").eachDue("kept(0, ?)", 1, 1, 1, 2).eachDue("kept(1, ?)", 0, 0, 0, 0);
    }
}
