/** What the tests have in common: they count answers that are not due, and end with 1 if there were any. */
final class Check {
    private final String name;
    private int asked = 0;
    private int wrong = 0;

    Check(String name) {
        this.name = name;
    }

    void due(String call, long got, long want) {
        asked++;
        if (got != want) {
            wrong++;
            System.out.println(name + ": " + call + " answered " + got + ", due is " + want);
        }
    }

    void holds(String what, boolean is) {
        due(what, is ? 1 : 0, 1);
    }

    void end() {
        System.out.println(name + ": " + asked + " answers, " + wrong + " wrong");
        System.exit(wrong == 0 ? 0 : 1);
    }

    /** Up to eight letters as letters() wants them. */
    static long packed(String text) {
        long w = 0;
        for (int i = text.length() - 1; i >= 0; i--) {
            w = w << 8 | text.charAt(i);
        }
        return w;
    }

    /** Puts a text behind THE PAGE: the last answer. */
    static int type(RedSky x, String text) {
        int last = x.count(1);
        for (int i = 0; i < text.length(); i += 8) {
            last = x.letters(packed(text.substring(i, Math.min(i + 8, text.length()))));
        }
        return last;
    }

    static int say(RedSky x, String text) {
        x.blank();
        type(x, text);
        return x.say();
    }

    static int good(RedSky x, String text) {
        x.blank();
        type(x, text);
        return x.good();
    }
}
