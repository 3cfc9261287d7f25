/** Promises 39 and 40: count, digest. */
public final class ToldTest {
    private static final Check CHECK = new Check("ToldTest");

    public static void main(String[] args) {
        counts();
        digests();
        CHECK.end();
    }

    private static void counts() {
        RedSky x = new RedSky();
        Check.say(x, "S=1:0~R>0");
        Check.say(x, "S=2:0~R>0");
        Check.type(x, "abc");
        x.first(3);
        x.learn(0, 1, 1, 1);
        int[] due = {2, 3, 3, 1};
        for (int what = 0; what < 4; what++) {
            CHECK.due("count(" + what + ")", x.count(what), due[what]);
        }
        for (int what : new int[] {-1, 4, Integer.MIN_VALUE, Integer.MAX_VALUE}) {
            CHECK.due("count(" + what + ")", x.count(what), RedSky.OUTSIDE);
        }
    }

    private static long mixed(long h, long... numbers) {
        for (long it : numbers) {
            h = 31 * h + it;
        }
        return h;
    }

    private static void digests() {
        RedSky x = new RedSky();
        x.first(2);
        x.saint(7, 12, 31, 3, -30);
        x.set(0, 1460, 3, -30, true);
        x.set(0, 5, 1, 9, true);
        x.set(0, 5, 0, 2, true);
        x.set(2, 0, 2, 0, true);
        x.set(2, 1, 2, 0, true);
        x.set(2, 1, 2, 0, false);
        Check.say(x, "S=1&W>3:1-4^!R>0@11-2");
        Check.say(x, "T=1:0~R>0@#6");
        Check.type(x, "S=~");
        x.age(0, 9999);
        x.age(5, 3);
        x.foretell(0, 1460, 1);
        x.foretell(0, 3, 0);
        x.foretell(5, 0, 1);
        x.learn(0, 0, 0, 0);
        long h = mixed(199, 2);
        for (int s = 0; s < 7; s++) {
            h = mixed(h, 1, 1, 0, 0);
        }
        h = mixed(h, 12, 31, 3, -30);
        h = mixed(h, 2048 * 5 + 2, 2048 * 5 + 256 + 9, 2048 * 1460 + 768 - 30, 512);
        h = mixed(h, 'S', '=', '~');
        h = mixed(h, 3, 4, 1, 4, 1, 11, 2, -1, 2, 1, 2, 2);
        h = mixed(h, 8, 4, 0, 0, 0, -1, -1, 6, 1, 1, 1, 1);
        h = mixed(h, 9999, 6, 2921, 0, 0, 0, 0, 3, 1);
        h = mixed(h, 1);
        CHECK.due("digest()", x.digest(), h);
        CHECK.due("digest() again", x.digest(), h);
        x.forget();
        x.blank();
        x.first(2);
        h = mixed(199, 2);
        for (int s = 0; s < 7; s++) {
            h = mixed(h, 1, 1, 0, 0);
        }
        h = mixed(h, 12, 31, 3, -30, 9999, 0, 0, 0, 0, 3, 1);
        CHECK.due("digest() of what stays", x.digest(), h);
    }
}
