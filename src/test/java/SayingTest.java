/** Promises 11 to 16: letters, blank, say, good, asks, forget. */
public final class SayingTest {
    private static final Check CHECK = new Check("SayingTest");

    public static void main(String[] args) {
        letters();
        fullPage();
        sayingsAndOthers();
        goodBeginnings();
        deepTexts();
        asked();
        depths();
        fullAndForgotten();
        CHECK.end();
    }

    private static void letters() {
        RedSky x = new RedSky();
        CHECK.due("none", x.letters(0), 0);
        CHECK.due("one", x.letters('S'), 1);
        CHECK.due("eight", x.letters(Check.packed("=1&W>3:1")), 9);
        long before = x.digest();
        CHECK.due("127", x.letters(127), RedSky.OUTSIDE);
        CHECK.due("128", x.letters(128), RedSky.OUTSIDE);
        CHECK.due("-1", x.letters(-1), RedSky.OUTSIDE);
        CHECK.due("127 last", x.letters(127L << 56 | Check.packed("abcdefg")), RedSky.OUTSIDE);
        CHECK.due("below 0 last", x.letters(Long.MIN_VALUE | Check.packed("abcdefg")), RedSky.OUTSIDE);
        CHECK.due("behind a 0", x.letters('S' | (long) 'W' << 16), RedSky.OUTSIDE);
        CHECK.due("a 0 first", x.letters((long) 'W' << 56), RedSky.OUTSIDE);
        CHECK.due("refusals change nothing", x.digest(), before);
        CHECK.due("126 and 1", x.letters(126 | 1 << 8), 11);
        CHECK.due("blank", x.blank(), 11);
        CHECK.due("blank again", x.blank(), 0);
        CHECK.due("count", x.count(1), 0);
    }

    private static void fullPage() {
        RedSky x = new RedSky();
        for (int i = 1; i <= 9; i++) {
            CHECK.due("letters", x.letters(Check.packed("SSSSSSSS")), 8 * i);
        }
        CHECK.due("75", x.letters(Check.packed("SSS")), 75);
        long before = x.digest();
        CHECK.due("81", x.letters(Check.packed("SSSSSS")), RedSky.FULL);
        CHECK.due("OUTSIDE comes ahead of FULL", x.letters(-1), RedSky.OUTSIDE);
        CHECK.due("refusals change nothing", x.digest(), before);
        CHECK.due("80", x.letters(Check.packed("SSSSS")), 80);
        CHECK.due("81", x.letters('S'), RedSky.FULL);
        CHECK.due("none more", x.letters(0), 80);
        CHECK.due("blank", x.blank(), 80);
    }

    private static void sayingsAndOthers() {
        String[] are = {
            "S=1:0~R>0", "S<1:9^R>0", "W>999:0-9~T=-30", "T<-999:3-3^T>-1", "S=001:1~R=000", "(S=1):1~(R>0)",
            "!S=1:1~!R>0", "!!!S=1:1~R>0", "!(S=1|W<3)&T>2:1~R>0", "S=1&W=2|R=3&T=4:1~R>0",
            "S=1:1~R>0@1-12", "S=1:1~R>0@12-1", "S=1:1~R>0@001-012", "S=1:1~R>0@05-5", "S=1:1~R>0@#0",
            "S=1:1~R>0@#7", "((((S=1))))|(W=2):1~R>0", "S=-0:1~R>-00"};
        for (String text : are) {
            RedSky x = new RedSky();
            CHECK.due("say " + text, Check.say(x, text), 0);
            CHECK.due("the page is empty", x.count(1), 0);
            CHECK.due("good " + text, Check.good(x, text), text.length());
        }
        String[] not = {
            "", "S", "S=", "S=1", "S=1:", "S=1:1", "S=1:1~", "S=1:1~R", "S=1:1~R>", "S=1:1~R>-", "S=1:~R>0",
            "S=1:1R>0", "S=1:2-1~R>0", "S=1:10~R>0", "S=1:1-~R>0", "S=1:-1~R>0", "S=1:1-10~R>0", "S=1:1-2-3~R>0",
            "S=0001:1~R>0", "S=--1:1~R>0", "S=1-:1~R>0", "S=+1:1~R>0", "S==1:1~R>0", "s=1:1~R>0", "X=1:1~R>0",
            "S=1 :1~R>0", " S=1:1~R>0", "S=1:1~R>0 ", "(S=1:1~R>0", "S=1):1~R>0", "S=1:1~R>0)", "S=1:1~(R>0",
            "():1~R>0", "S=1|:1~R>0", "S=1&:1~R>0", "&S=1:1~R>0", "S=1!:1~R>0", "S=1W=1:1~R>0", "(S=1)1:1~R>0",
            "(S=1)(W=1):1~R>0", "S=1:1~R>0:1~R>0", "S=1@1-2:1~R>0", "S=1:1~R>0@", "S=1:1~R>0@1", "S=1:1~R>0@1-",
            "S=1:1~R>0@0-1", "S=1:1~R>0@1-0", "S=1:1~R>0@13-1", "S=1:1~R>0@1-13", "S=1:1~R>0@000-1",
            "S=1:1~R>0@0001-1", "S=1:1~R>0@-1-1", "S=1:1~R>0@1--1", "S=1:1~R>0@#", "S=1:1~R>0@#8", "S=1:1~R>0@#00",
            "S=1:1~R>0@#-1", "S=1:1~R>0@@#1", "S=1:1~R>0@1-2-3", "S=1:1~^R>0", "S=1:1~R>0~R>0"};
        for (String text : not) {
            RedSky x = new RedSky();
            CHECK.due("say " + text, Check.say(x, text), RedSky.STATE);
            CHECK.due("the page stays", x.count(1), text.length());
            CHECK.due("no saying", x.count(0), 0);
        }
    }

    private static void goodBeginnings() {
        RedSky x = new RedSky();
        String whole = "!(S=1|W<-12)&T>2:1-3~R>099|W=1@012-02";
        for (int n = 0; n <= whole.length(); n++) {
            CHECK.due("good " + whole.substring(0, n), Check.good(x, whole.substring(0, n)), n);
        }
        Object[][] begin = {
            {"(S=2:1~R=0", 4}, {"S=1:3-2~R=0", 6}, {"S=1111", 5}, {"S=-1111", 6}, {"S=--", 3}, {"X", 0}, {"!X", 1},
            {"S=1)", 3}, {"(S=1))", 5}, {"S=1@", 3}, {"S=1:1~R>0:", 9}, {"S=1:1~R>0@0-", 11}, {"S=1:1~R>0@000", 12},
            {"S=1:1~R>0@00", 12}, {"S=1:1~R>0@13", 11}, {"S=1:1~R>0@20", 11}, {"S=1:1~R>0@0012", 13},
            {"S=1:1~R>0@-", 10}, {"S=1:1~R>0@1-#", 12}, {"S=1:1~R>0@1-12x", 14}, {"S=1:1~R>0@1-0", 13},
            {"S=1:1~R>0@1-000", 14}, {"S=1:1~R>0@#8", 11}, {"S=1:1~R>0@#77", 12}, {"S=1:12", 5}, {"S=1:1-23", 7},
            {"S=1:1~R>0@1-2-", 13}, {"(S=1)2", 5}, {"S=1&&", 4}, {"S=1|)", 4}, {"(S=1:", 4}, {"S<=1", 2}, {"S!1", 1},
            {"S1", 1}, {"SS", 1}, {"S=&", 2}, {"S=1:~", 4}, {"S=1:1:", 5}, {"S=1:1~:", 6}};
        for (Object[] row : begin) {
            CHECK.due("good " + row[0], Check.good(x, (String) row[0]), (Integer) row[1]);
        }
        x.blank();
        x.letters(1);
        CHECK.due("a letter that is none", x.good(), 0);
        CHECK.due("good changes nothing", x.count(1), 1);
    }

    private static void deepTexts() {
        RedSky x = new RedSky();
        CHECK.due("80 open", Check.good(x, "(".repeat(80)), 80);
        CHECK.due("none", x.say(), RedSky.STATE);
        CHECK.due("80 nots", Check.good(x, "!".repeat(80)), 80);
        CHECK.due("80 of both", Check.good(x, "!(".repeat(40)), 80);
        String round = "(".repeat(35) + "S>1" + ")".repeat(35) + ":0~S>1";
        CHECK.due("35 pairs", Check.say(x, round), 0);
        CHECK.due("are nothing", x.asks(0, 10), 1);
        String nots = "!".repeat(71) + "S>1:0~S>1";
        CHECK.due("71 nots", Check.say(x, nots), 1);
        CHECK.due("are 72 deep", x.asks(1, 10), 72);
        String both = "!(".repeat(23) + "S>1" + ")".repeat(23) + ":0~S>1";
        CHECK.due("23 of both", Check.say(x, both), 2);
        CHECK.due("are 24 deep", x.asks(2, 10), 24);
        StringBuilder wide = new StringBuilder("S=1");
        for (int i = 1; i < 18; i++) {
            wide.append(i % 2 == 0 ? "|W=1" : "&S=1");
        }
        CHECK.due("18 comparisons", Check.say(x, wide + ":0~S>1"), 3);
        CHECK.due("18", x.asks(3, 8), 18);
        StringBuilder nested = new StringBuilder();
        for (int i = 0; i < 7; i++) {
            nested.append("S=0|S=1&(");
        }
        CHECK.due("nested", Check.say(x, nested + "S=2" + ")".repeat(7) + ":0^S>1"), 4);
        CHECK.due("15 comparisons", x.asks(4, 8), 15);
        CHECK.due("two a level", x.asks(4, 10), 15);
        x.set(0, 5, 0, 0, true);
        CHECK.due("0 holds", x.truth(4, 0, 5, 0), 1);
        x.set(0, 5, 0, 1, true);
        CHECK.due("1 does not", x.truth(4, 0, 5, 0), 0);
        CHECK.due("an odd number of nots", x.truth(1, 0, 5, 0), 1);
        CHECK.due("pairs are nothing", x.truth(0, 0, 5, 0), 0);
    }

    private static void asked() {
        RedSky x = new RedSky();
        CHECK.due("say", Check.say(x, "S=1&W>3:1~R>0"), 0);
        asksAre(x, 0, 3, 4, 1, 1, 0, -1, -1, -1, 2, 1, 2, 1);
        CHECK.due("say", Check.say(x, "!(T<0|T>30|T=7):0-9^(S=1&W=2)|R=3@11-02"), 1);
        asksAre(x, 1, 8, 7, 0, 9, 1, 11, 2, -1, 3, 3, 3, 3);
        CHECK.due("say", Check.say(x, "R>0:7~R>0@#4"), 2);
        asksAre(x, 2, 4, 4, 7, 7, 0, -1, -1, 4, 1, 1, 1, 1);
        CHECK.due("what 12", x.asks(0, 12), RedSky.OUTSIDE);
        CHECK.due("what -1", x.asks(0, -1), RedSky.OUTSIDE);
        CHECK.due("k 3", x.asks(3, 99), RedSky.UNKNOWN);
        CHECK.due("k -1", x.asks(-1, 0), RedSky.UNKNOWN);
        CHECK.due("k 8", x.asks(8, 0), RedSky.UNKNOWN);
    }

    private static void asksAre(RedSky x, int k, int... want) {
        for (int what = 0; what < want.length; what++) {
            CHECK.due("asks(" + k + ", " + what + ")", x.asks(k, what), want[what]);
        }
    }

    private static void depths() {
        Object[][] rows = {
            {"S=1", 1}, {"!S=1", 2}, {"!!S=1", 3}, {"(S=1)", 1}, {"!(S=1)", 2}, {"(!S=1)", 2}, {"S=1&S=1", 2},
            {"S=1&S=1&S=1", 2}, {"S=1|S=1|S=1", 2}, {"S=1&S=1|S=1", 3}, {"S=1|S=1&S=1", 3}, {"(S=1&S=1)&S=1", 3},
            {"(S=1|S=1)|S=1", 3}, {"(S=1&S=1)", 2}, {"!(S=1&!S=1)", 4}, {"!S=1&S=1", 3}, {"S=1&!!S=1|S=1", 5},
            {"S=1|!(S=1|S=1&S=1)", 5}, {"!!(S=1)&S=1|(S=1&(S=1|S=1))", 5}, {"!!S=1|S=1&S=1&S=1", 4}};
        for (Object[] row : rows) {
            RedSky x = new RedSky();
            CHECK.due("say " + row[0], Check.say(x, row[0] + ":1~" + row[0]), 0);
            CHECK.due("depth of the first, " + row[0], x.asks(0, 10), (Integer) row[1]);
            CHECK.due("depth of the second, " + row[0], x.asks(0, 11), (Integer) row[1]);
        }
    }

    private static void fullAndForgotten() {
        RedSky x = new RedSky();
        for (int k = 0; k < 8; k++) {
            CHECK.due("say", Check.say(x, "S=" + k + ":" + k + "~R>0"), k);
        }
        Check.type(x, "W=1:1~");
        CHECK.due("STATE comes ahead of FULL", x.say(), RedSky.STATE);
        Check.type(x, "W=2");
        long before = x.digest();
        CHECK.due("FULL", x.say(), RedSky.FULL);
        CHECK.due("a refusal changes nothing", x.digest(), before);
        CHECK.due("count", x.count(0), 8);
        CHECK.due("the last one is there", x.asks(7, 2), 7);
        CHECK.due("forget", x.forget(), 8);
        CHECK.due("forget again", x.forget(), 0);
        CHECK.due("asks", x.asks(0, 0), RedSky.UNKNOWN);
        CHECK.due("the page stays", x.count(1), 9);
        CHECK.due("say", x.say(), 0);
        CHECK.due("the new one", x.asks(0, 0), 2);
        CHECK.due("the old ones are gone", x.asks(1, 0), RedSky.UNKNOWN);
        CHECK.due("good on the way", Check.good(x, "T=1:5^T<0@#3"), 12);
        CHECK.due("does not touch what was said", x.asks(0, 2), 1);
        CHECK.due("nor its season", x.asks(0, 7), RedSky.NONE);
    }
}
