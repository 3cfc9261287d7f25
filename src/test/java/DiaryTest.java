/** Promises 7 to 10: write, set, get, kept. */
public final class DiaryTest {
    private static final Check CHECK = new Check("DiaryTest");
    private static final int[] LOW = {0, 0, 0, -30}, HIGH = {3, 9, 99, 40};

    public static void main(String[] args) {
        writing();
        writingEdges();
        setting();
        refusals();
        CHECK.end();
    }

    private static void writing() {
        written(1, 2, 4711, 13);
        written(2, 3, 2147483647, 1000);
        RedSky x = new RedSky();
        x.write(1, 2, 4711, 13);
        CHECK.due("write over it", x.write(1, 2, 0, 0), 0);
        CHECK.due("kept", x.kept(1, 2), 1460);
        CHECK.due("kept of the YEAR ahead", x.kept(1, 1), 0);
        CHECK.due("kept of the YEAR behind", x.kept(1, 3), 0);
        CHECK.due("kept of another VALLEY", x.kept(0, 2), 0);
        written(1, 2, 0, 0);
    }

    /** Holds the DAYS of a YEAR against WRITING as the document tells it. */
    private static void written(int v, int y, int seed, int g) {
        long s = seed;
        int gaps = 0;
        RedSky x = null;
        int start = 365 * y, days = y == 3 ? 366 : 365;
        for (int i = 0; i < days; i++) {
            // one object is used for 512 calls at most
            if (i % 100 == 0) {
                x = new RedSky();
                x.write(v, y, seed, g);
            }
            for (int f = 0; f < 4; f++) {
                s = (1103515245L * s + 12345L) & 0x7fffffffL;
                long z = s >> 16;
                long w = f == 0 ? z % 4 : f == 1 ? z % 10 : f == 2 ? (z % 3 == 0 ? 0 : z % 100) : z % 71 - 30;
                if (g > 0 && (s >> 8) % g == 0) {
                    w = -1000;
                    gaps++;
                }
                CHECK.due("get(" + v + ", " + (start + i) + ", " + f + ")", x.get(v, start + i, f), w);
            }
        }
        CHECK.due("write(" + v + ", " + y + ", " + seed + ", " + g + ")", new RedSky().write(v, y, seed, g), gaps);
    }

    private static void writingEdges() {
        RedSky x = new RedSky();
        CHECK.due("all gaps", x.write(0, 0, 5, 1), 1460);
        CHECK.due("all gaps of the long YEAR", x.write(0, 3, 5, 1), 1464);
        CHECK.due("kept", x.kept(0, 0), 0);
        CHECK.due("no gaps", x.write(0, 0, 5, 0), 0);
        CHECK.due("gaps come over numbers", x.write(0, 0, 5, 1), 1460);
        CHECK.due("kept", x.kept(0, 0), 0);
        x.first(0);
        CHECK.due("the long YEAR is another", x.write(0, 0, 5, 1), 1464);
    }

    private static void setting() {
        RedSky x = new RedSky();
        for (int f = 0; f < 4; f++) {
            for (int w = LOW[f]; w <= HIGH[f]; w++) {
                CHECK.due("set", x.set(2, 700, f, w, true), w == LOW[f] ? 0 : 1);
                CHECK.due("get", x.get(2, 700, f), w);
            }
            CHECK.due("set below", x.set(2, 700, f, LOW[f] - 1, true), RedSky.OUTSIDE);
            CHECK.due("set above", x.set(2, 700, f, HIGH[f] + 1, true), RedSky.OUTSIDE);
            CHECK.due("unchanged", x.get(2, 700, f), HIGH[f]);
        }
        CHECK.due("kept", x.kept(2, 1), 4);
        CHECK.due("a gap", x.set(2, 700, 1, 0, false), 1);
        CHECK.due("a gap again", x.set(2, 700, 1, 0, false), 0);
        CHECK.due("get", x.get(2, 700, 1), -1000);
        CHECK.due("the others stay", x.get(2, 700, 0), 3);
        CHECK.due("the others stay", x.get(2, 700, 2), 99);
        CHECK.due("the others stay", x.get(2, 700, 3), 40);
        CHECK.due("kept", x.kept(2, 1), 3);
        CHECK.due("set -1 is no gap", x.set(2, 0, 3, -1, true), 0);
        CHECK.due("it was a number", x.set(2, 0, 3, -1, true), 1);
        CHECK.due("get", x.get(2, 0, 3), -1);
        CHECK.due("w counts for a gap too", x.set(2, 700, 0, 4, false), RedSky.OUTSIDE);
        CHECK.due("unchanged", x.get(2, 700, 0), 3);
    }

    private static void refusals() {
        RedSky x = new RedSky();
        x.write(0, 0, 9, 7);
        long before = x.digest();
        CHECK.due("write v", x.write(3, 0, -1, 0), RedSky.UNKNOWN);
        CHECK.due("write v", x.write(-1, 0, 0, 0), RedSky.UNKNOWN);
        CHECK.due("write y", x.write(0, 4, 0, 1001), RedSky.UNKNOWN);
        CHECK.due("write y", x.write(0, -1, 0, 0), RedSky.UNKNOWN);
        CHECK.due("write x", x.write(0, 0, -1, 0), RedSky.OUTSIDE);
        CHECK.due("write x", x.write(0, 0, Integer.MIN_VALUE, 0), RedSky.OUTSIDE);
        CHECK.due("write g", x.write(0, 0, 0, 1001), RedSky.OUTSIDE);
        CHECK.due("write g", x.write(0, 0, 0, -1), RedSky.OUTSIDE);
        CHECK.due("set v", x.set(3, 0, 0, 99, true), RedSky.UNKNOWN);
        CHECK.due("set n", x.set(0, 1461, 0, 99, true), RedSky.UNKNOWN);
        CHECK.due("set n", x.set(0, -1, 0, 0, true), RedSky.UNKNOWN);
        CHECK.due("set f", x.set(0, 0, 4, 0, true), RedSky.UNKNOWN);
        CHECK.due("set f", x.set(0, 0, -1, 0, true), RedSky.UNKNOWN);
        CHECK.due("get v", x.get(3, 0, 0), -10101);
        CHECK.due("get n", x.get(0, 1461, 0), -10101);
        CHECK.due("get f", x.get(0, 0, 4), -10101);
        CHECK.due("get f", x.get(0, 0, Integer.MIN_VALUE), -10101);
        CHECK.due("kept v", x.kept(-1, 0), RedSky.UNKNOWN);
        CHECK.due("kept y", x.kept(0, 4), RedSky.UNKNOWN);
        CHECK.due("refusals change nothing", x.digest(), before);
    }
}
