/** The boundary cases of promises 11 to 16, each sentence a run of its own. */
public final class SayingEdgesTest {
    private static final Check CHECK = new Check("SayingEdgesTest");

    public static void main(String[] args) {
        codesAtTheEnds();
        bytesBehindAZero();
        eightLetters();
        pageUpTo80();
        blanks();
        shortestAndLongest();
        notASaying();
        pageStaysAndGoesOn();
        readAnew();
        eightSayings();
        numbers();
        fieldsAndSigns();
        spans();
        monthsOfASeason();
        saintsOfASeason();
        brackets();
        goodAtTheEnds();
        goodOfFullPages();
        asksFieldsAndComparisons();
        asksSpanAndSeason();
        asksDepth();
        asksOfEach();
        forgets();
        CHECK.end();
    }

    private static Run run(String name) {
        return new Run(CHECK, name);
    }

    private static String letters(long w) {
        return "letters(" + w + ")";
    }

    // ---- promise 11

    private static void codesAtTheEnds() {
        long others = Check.packed("abcdefgh");
        for (int i = 0; i < 8; i++) {
            long hole = others & ~(255L << 8 * i);
            Run r = run("a byte from 1 to 126 in place " + i + " is a letter");
            r.due(letters(hole | 1L << 8 * i), 8).due(letters(hole | 126L << 8 * i), 16);
            for (long code : new long[] {127, 128, 129, 254, 255}) {
                r.stays(letters(hole | code << 8 * i), RedSky.OUTSIDE);
            }
        }
        run("one letter alone").due(letters(1), 1).due(letters(126), 2).stays(letters(127), RedSky.OUTSIDE)
            .stays(letters(128), RedSky.OUTSIDE).stays(letters(255), RedSky.OUTSIDE).due("count(1)", 2);
        run("all bits, and the ends of long").stays(letters(-1), RedSky.OUTSIDE).stays(letters(Long.MIN_VALUE), RedSky.OUTSIDE)
            .stays(letters(Long.MAX_VALUE), RedSky.OUTSIDE).due("blank()", 0);
    }

    private static void bytesBehindAZero() {
        run("no letter is none").due(letters(0), 0).due(letters('S'), 1).due(letters(0), 1);
        for (int zero = 0; zero < 7; zero++) {
            Run r = run("a byte behind a 0 in place " + zero + " that is not 0");
            long ahead = zero == 0 ? 0 : Check.packed("abcdefg".substring(0, zero));
            r.due(letters(ahead), zero);
            for (int i = zero + 1; i < 8; i++) {
                r.stays(letters(ahead | 1L << 8 * i), RedSky.OUTSIDE).stays(letters(ahead | 128L << 8 * i), RedSky.OUTSIDE);
            }
            r.due("count(1)", zero);
        }
    }

    private static void eightLetters() {
        Run r = run("the lowest byte first, one to eight letters");
        r.type("T").type(">5:1~W<").due("count(1)", 8).type("9").due("good()", 9).due("say()", 0);
        r.eachDue("asks(0, ?)", 8, 2, 1, 1, 0);
        int sum = 0;
        Run s = run("how many THE PAGE has");
        for (int many = 1; many <= 8; many++) {
            sum += many;
            s.due(letters(Check.packed("SSSSSSSS".substring(0, many))), sum);
        }
    }

    private static void pageUpTo80() {
        for (int many = 1; many <= 8; many++) {
            long w = Check.packed("WWWWWWWW".substring(0, many));
            Run r = run("80 letters are taken, 81 are not, " + many + " at once");
            r.type("S".repeat(80 - many)).due(letters(w), 80).due("blank()", 80);
            r.type("S".repeat(81 - many)).stays(letters(w), RedSky.FULL).due("count(1)", 81 - many);
            // a byte that is none comes ahead of too many letters
            r.stays(letters(127L), RedSky.OUTSIDE).stays(letters(255L << 56 | w), RedSky.OUTSIDE);
        }
        run("a full PAGE").type("S".repeat(80)).due(letters(0), 80).stays(letters(1), RedSky.FULL).stays(letters(126), RedSky.FULL)
            .stays(letters(127), RedSky.OUTSIDE).stays(letters(256), RedSky.OUTSIDE).due("count(1)", 80);
    }

    // ---- promise 12

    private static void blanks() {
        run("the empty PAGE had none").due("blank()", 0).due("blank()", 0);
        run("one letter").type("S").due("blank()", 1).due("blank()", 0).due("good()", 0).due("count(1)", 0);
        run("80 letters").type("(".repeat(80)).due("blank()", 80).due("count(1)", 0).due(letters('S'), 1).due("good()", 1);
        run("letters of the PAGE ahead are gone").type("S=1:1~R").due("blank()", 7).type("W>2:1~T<3").due("say()", 0)
            .due("asks(0, 0)", 2).due("asks(0, 1)", 8);
    }

    // ---- promise 13

    private static void shortestAndLongest() {
        run("a SAYING of nine letters").type("S=1:0~R>0").due("good()", 9).due("say()", 0).due("count(1)", 0).due("count(0)", 1);
        String longest = "!".repeat(71) + "S=1:0~R>0";
        run("a SAYING of 80").type(longest).due("count(1)", 80).due("good()", 80).due("say()", 0).due("asks(0, 10)", 72);
        StringBuilder wide = new StringBuilder("S=1");
        for (int i = 0; i < 17; i++) {
            wide.append("&W>3");
        }
        wide.append(":0-9^R>0");
        run("18 comparisons and 79 letters").type(wide.toString()).due("count(1)", 79).due("say()", 0).due("asks(0, 8)", 18);
    }

    private static void notASaying() {
        run("the empty PAGE is none").due("good()", 0).due("say()", RedSky.STATE).due("count(0)", 0);
        String whole = "!(S=1|W<12)&T>-2:1-3~R>9@11-2";
        Run r = run("a SAYING's beginnings are none, but where one ends");
        for (int n = 1; n < whole.length(); n++) {
            // "..~R>9" and "..@11-2" end one
            if (n != 24) {
                Run each = run("a beginning");
                each.none(whole.substring(0, n), n);
            }
        }
        r.page(whole.substring(0, 24)).due("say()", 0).page(whole).due("say()", 1);
    }

    private static void pageStaysAndGoesOn() {
        Run r = run("THE PAGE stays, and may become one").type("S=1:0~R>").due("say()", RedSky.STATE).due("count(1)", 8);
        r.due("say()", RedSky.STATE).type("0").due("say()", 0).due("count(1)", 0).due("say()", RedSky.STATE);
        run("a refused text stays as it is").type("S=1:0~R>0 ").due("say()", RedSky.STATE).due("count(1)", 10).due("good()", 9)
            .stays("say()", RedSky.STATE);
        Run s = run("a refusal touches no SAYING").say("S=1:0~R>0").go("set(0, 0, 0, 1, true)", "set(0, 0, 2, 4, true)");
        s.none("!S=1&W<2:3^T>0@#", 16).due("truth(0, 0, 0, 0)", 1).due("truth(0, 0, 0, 1)", 1);
        s.eachDue("asks(0, ?)", 1, 4, 0, 0, 0, -1, -1, -1, 1, 1, 1, 1);
    }

    private static void readAnew() {
        String[] ahead = {"!!!T>77&W=3|S=", "!(!(S=1|W=2&!!R=3", "((((!!S=1&!", "S=9|S=9|S=9&S=9&S=9:7-9^!!!!T=9&T=9|S", "!!!!",
            "W=444:5-6~(T=555|!R=666)@11-1", "T<888:5-6^!(!S=3)@#6", "S=2:3~W=1:", "!!!", "!!!S=1&W=2&", "S=1&!!W=2|!"};
        for (String text : ahead) {
            Run r = run("what was read ahead leaves nothing behind").page(text).go("say()", "forget()");
            r.page("S=2|!W=1:1~T=3&R=4").due("say()", 0);
            r.eachDue("asks(0, ?)", 3, 12, 1, 1, 0, -1, -1, -1, 2, 2, 3, 2).due("count(0)", 1);
            r.go("set(0, 0, 0, 2, true)", "set(0, 0, 1, 1, true)", "set(0, 1, 2, 4, true)", "set(0, 1, 3, 3, true)");
            r.due("truth(0, 0, 0, 0)", 1).due("truth(0, 0, 0, 1)", 1).due("truth(0, 0, 0, 2)", 1);
            r.go("set(0, 0, 0, 1, true)").due("truth(0, 0, 0, 0)", 0).go("set(0, 0, 1, 0, true)").due("truth(0, 0, 0, 0)", 1);
            r.go("set(0, 1, 2, 5, true)").due("truth(0, 0, 0, 1)", 0);
        }
        Run all = run("nor what was forgotten");
        for (int i = 0; i < 8; i++) {
            all.say("!!(T=" + i + "|W=9):1-9^!R=5@#" + i);
        }
        all.go("forget()");
        for (int k = 0; k < 8; k++) {
            all.say("S=" + k % 4 + ":0~R>0").eachDue("asks(" + k + ", ?)", 1, 4, 0, 0, 0, -1, -1, -1, 1, 1, 1, 1);
        }
        all.go("set(0, 0, 0, 3, true)", "set(0, 0, 2, 5, true)");
        for (int k = 0; k < 8; k++) {
            all.due("truth(" + k + ", 0, 0, 0)", k % 4 == 3 ? 1 : 0).due("truth(" + k + ", 0, 0, 1)", 1);
        }
    }

    private static void eightSayings() {
        Run r = run("there are 8 at most");
        for (int k = 0; k < 8; k++) {
            r.page("S=" + k + ":" + k + "~R>0").due("say()", k).due("count(0)", k + 1).due("count(1)", 0);
        }
        r.stays("say()", RedSky.STATE).type("W<9:9^T>0").stays("say()", RedSky.FULL).due("count(1)", 9).due("good()", 9);
        r.type("x").stays("say()", RedSky.STATE);
        for (int k = 0; k < 8; k++) {
            r.due("asks(" + k + ", 2)", k);
        }
        r.due("asks(8, 2)", RedSky.UNKNOWN);
        r.due("forget()", 8).due("say()", RedSky.STATE).page("W<9:9^T>0").due("say()", 0).due("asks(0, 2)", 9);
    }

    // ---- the grammar, promises 13 and 14

    private static void numbers() {
        run("a NUMBER has one to three digits").say("T=0:0~R>0", "T=99:0~R>0", "T=999:0~R>0", "T=000:0~R>0")
            .none("T=1000:0~R>0", 5).none("T=0000:0~R>0", 5).none("T=:0~R>0", 2).none("T=1:0~R>1000", 11);
        run("perhaps - ahead").say("T=-0:0~R>0", "T=-30:0~R>0", "T=-999:0~R>0", "T=1:0~R>-001")
            .none("T=-1000:0~R>0", 6).none("T=-:0~R>0", 3).none("T=--1:0~R>0", 3).none("T=1-:0~R>0", 3)
            .none("T=+1:0~R>0", 2).none("T=1:0~R>-", 9);
        run("nothing else stands in it").none("T= 1:0~R>0", 2).none("T=1 :0~R>0", 3).none("T=1.0:0~R>0", 3).none("T=a:0~R>0", 2);
        Run r = run("NUMBERS beyond what FIELDS take").say("T>-999:0~S<999", "T=-31:0~S=4", "T<-30:0~S<-0", "T>40:0~S>3");
        r.go("set(0, 0, 3, -30, true)", "set(0, 0, 0, 3, true)");
        for (int k = 0; k < 4; k++) {
            r.due("truth(" + k + ", 0, 0, 0)", k == 0 ? 1 : 0).due("truth(" + k + ", 0, 0, 1)", k == 0 ? 1 : 0);
        }
    }

    private static void fieldsAndSigns() {
        run("a FIELD's letter and a sign").say("S<1:0~S>1", "W=1:0~W=1", "R>1:0~R<1", "T<1:0~T>1")
            .none("s=1:0~R>0", 0).none("Q=1:0~R>0", 0).none("V=1:0~R>0", 0).none("X=1:0~R>0", 0).none("U=1:0~R>0", 0)
            .none("S;1:0~R>0", 1).none("S?1:0~R>0", 1).none("S<=1:0~R>0", 2).none("S!1:0~R>0", 1).none("S1:0~R>0", 1)
            .none("1:0~R>0", 0).none("=1:0~R>0", 0).none(":0~R>0", 0).none(" S=1:0~R>0", 0).none("S=1:0~r>0", 6);
        run("letters with the ends of codes").none("\1", 0).none("~", 0).none("S\1", 1).none("S=1:\1", 4).none("S=1:0~R>0\1", 9)
            .none("S=1:0~R>0@\1", 10).none("S=1:0~R>0@#\1", 11).none("S=1:0~R>0@~", 10);
        run("signs next to digits").none("S=/:0~R>0", 2).none("S=1/", 3).none("S=::0~R>0", 2).none("S=1:/", 4).none("S=1::", 4)
            .none("S=1:0~R>0@/", 10).none("S=1:0~R>0@:", 10).none("S=1:0~R>0@#/", 11).none("S=1:0~R>0@#:", 11);
    }

    private static void spans() {
        for (int from = 0; from <= 9; from++) {
            Run r = run("a SPAN: a digit, or two, the second not below the first");
            r.say("S=1:" + from + "~R>0").due("asks(0, 2)", from).due("asks(0, 3)", from).go("forget()");
            for (int to = 0; to <= 9; to++) {
                String text = "S=1:" + from + "-" + to + "^R>0";
                if (to < from) {
                    r.none(text, 6);
                } else {
                    r.say(text).due("asks(0, 2)", from).due("asks(0, 3)", to).due("asks(0, 4)", 1).go("forget()");
                }
            }
        }
        run("no SPAN of more, or of none").none("S=1:~R>0", 4).none("S=1:-1~R>0", 4).none("S=1:10~R>0", 5).none("S=1:00~R>0", 5)
            .none("S=1:1-~R>0", 6).none("S=1:1--2~R>0", 6).none("S=1:1-10~R>0", 7).none("S=1:1-22~R>0", 7)
            .none("S=1:1-2-3~R>0", 7).none("S=1:1R>0", 5).none("S=1:1-2R>0", 7).none("S=1:1~^R>0", 6).none("S=1:1:1~R>0", 5);
        run("no third part").none("S=1:0~R>0:1~W=1", 9).none("S=1:0~R>0~W=1", 9).none("S=1:0~(R>0:1~W=1)", 10)
            .none("S=1:0~R>0@1-2:1~W=1", 13).none("S=1:0~R>0@#1:1~W=1", 12);
    }

    private static void monthsOfASeason() {
        String head = "S=1:0~R>0@";
        Run r = run("two NUMBERS 1 to 12");
        r.say(head + "1-1", head + "1-12", head + "12-1", head + "12-12", head + "01-012", head + "001-01", head + "9-10");
        r.due("asks(1, 5)", 1).due("asks(1, 6)", 12).due("asks(2, 5)", 12).due("asks(2, 6)", 1);
        r.due("asks(4, 5)", 1).due("asks(4, 6)", 12).due("asks(5, 5)", 1).due("asks(5, 6)", 1);
        run("the first below 1 or above 12").none(head + "0-1", 11).none(head + "00-1", 12).none(head + "000-1", 12)
            .none(head + "13-1", 11).none(head + "20-1", 11).none(head + "99-1", 11).none(head + "100-1", 12).none(head + "013-1", 12);
        run("the second below 1 or above 12").none(head + "1-0", 13).none(head + "1-00", 14).none(head + "1-000", 14)
            .none(head + "1-13", 13).none(head + "1-20", 13).none(head + "1-120", 14).none(head + "1-013", 14);
        run("no more than three digits").none(head + "0001-1", 12).none(head + "0012-1", 13).none(head + "1-0001", 14)
            .none(head + "1-0012", 15);
        run("no - ahead").none(head + "-1-1", 10).none(head + "1--1", 12).none(head + "-", 10);
        run("both of them, and nothing behind").none(head, 10).none(head + "1", 11).none(head + "1-", 12).none(head + "12", 12)
            .none(head + "1-2-3", 13).none(head + "1-12 ", 14).none(head + "1-1@1-1", 13).none(head + "1-1:", 13)
            .none(head + "1-1&S=1", 13).none(head + "@1-1", 10).none(head + "1#1", 11).none(head + "1-#1", 12);
        run("behind THE SECOND alone").none("S=1@1-1:0~R>0", 3).none("S=1:0@1-1~R>0", 5).none("S=1:0~(R>0@1-1)", 10)
            .none("S=1:0~R>@1-1", 8).none("@1-1S=1:0~R>0", 0);
    }

    private static void saintsOfASeason() {
        String head = "S=1:0~R>0@#";
        Run r = run("# and a digit 0 to 7");
        for (int s = 0; s < 8; s++) {
            r.say(head + s).due("asks(" + s + ", 7)", s).due("asks(" + s + ", 5)", -1).due("asks(" + s + ", 6)", -1);
        }
        run("no other").none(head, 11).none(head + "8", 11).none(head + "9", 11).none(head + "-1", 11).none(head + "#1", 11)
            .none(head + "00", 12).none(head + "07", 12).none(head + "7-7", 12).none(head + "7@#7", 12).none(head + "7 ", 12);
    }

    private static void brackets() {
        run("each ( has its )").say("(S=1):0~(R>0)", "((S=1)):0~((R>0))", "(S=1|W=1)&T>0:0~R>0", "!(!(!S=1)):0~R>0")
            .none("(S=1:0~R>0", 4).none("S=1):0~R>0", 3).none("S=1:0~(R>0", 10).none("S=1:0~R>0)", 9)
            .none("(S=1:0~R>0)", 4).none("S=1:(0~R>0)", 4).none("((S=1):0~R>0", 6);
        run("something stands in it").none("():0~R>0", 1).none("(!):0~R>0", 2).none("(S=1&):0~R>0", 5).none("(|S=1):0~R>0", 1)
            .none("S=1:0~()", 7).none("S=1:0~", 6);
        run("a sign stands between two").none("(S=1)(W=1):0~R>0", 5).none("S=1W=1:0~R>0", 3).none("S=1!W=1:0~R>0", 3)
            .none("S=1(W=1):0~R>0", 3).none("S=1&&W=1:0~R>0", 4).none("S=1|&W=1:0~R>0", 4).none("(S=1)0:0~R>0", 5);
        run("! stands ahead").say("!S=1:0~!!R>0").none("S!=1:0~R>0", 1).none("S=!1:0~R>0", 2).none("S=1!:0~R>0", 3)
            .none("!:0~R>0", 1).none("!&S=1:0~R>0", 1).none("S=1:!0~R>0", 4).none("S=1:0!~R>0", 5);
    }

    private static void goodAtTheEnds() {
        run("no letter").due("good()", 0);
        run("the first letter begins none").type(")").due("good()", 0).due("count(1)", 1);
        run("letters behind a wrong one do not matter").none(")S=1:0~R>0", 0).none("S=1:0~R>0)@1-1", 9);
        run("it changes nothing").type("S=1:9-8~").stays("good()", 6).stays("good()", 6).due("count(1)", 8);
        run("MONTHS that may become one yet").none("S=1:0~R>0@0", 11).none("S=1:0~R>0@00", 12).none("S=1:0~R>0@1-0", 13)
            .none("S=1:0~R>0@1-00", 14);
        run("all of a SAYING, though it may go on").type("S=1:0~R>0").due("good()", 9).type("9").due("good()", 10)
            .type("9").due("good()", 11).type("9").due("good()", 11).due("say()", RedSky.STATE);
    }

    private static void goodOfFullPages() {
        run("80 open brackets").none("(".repeat(80), 80);
        run("80 nots").none("!".repeat(80), 80);
        run("80 letters that are wrong at the end").none("!".repeat(79) + "x", 79).none("(".repeat(79) + ")", 79);
        run("40 of both").none("!(".repeat(40), 80);
        run("80 letters that want one more").none("!".repeat(72) + "S=1:0~R>", 80);
        run("brackets that are closed again").type("(".repeat(35) + "S=1" + ")".repeat(35) + ":0~R>0").due("good()", 79)
            .type("1").due("good()", 80).due("say()", 0).due("asks(0, 10)", 1);
        run("one too many is closed").none("(".repeat(35) + "S=1" + ")".repeat(36) + ":0~R>0", 73);
    }

    // ---- promise 15

    private static void asksFieldsAndComparisons() {
        Run r = run("the FIELDS as bits, S lowest; comparisons, also of the same FIELD");
        r.say("S=1:0~T=1", "W=1:0~R=1", "R=1|R=2|R=3:0~W=1&W=2", "S=1&W=1&R=1&T=1:0~!(T=1|R=1|W=1|S=1)");
        r.due("asks(0, 0)", 1).due("asks(0, 1)", 8).due("asks(1, 0)", 2).due("asks(1, 1)", 4);
        r.due("asks(2, 0)", 4).due("asks(2, 1)", 2).due("asks(2, 8)", 3).due("asks(2, 9)", 2);
        r.due("asks(3, 0)", 15).due("asks(3, 1)", 15).due("asks(3, 8)", 4).due("asks(3, 9)", 4).due("asks(0, 8)", 1);
        r.due("asks(0, 9)", 1);
    }

    private static void asksSpanAndSeason() {
        Run r = run("SPAN, whether ^, and SEASON");
        r.say("S=1:0~R>0", "S=1:9^R>0", "S=1:0-9^R>0@12-1", "S=1:3-3~R>0@#0", "S=1:3-4~R>0@#7");
        r.eachDue("asks(0, ?)", 1, 4, 0, 0, 0, -1, -1, -1, 1, 1, 1, 1);
        r.eachDue("asks(1, ?)", 1, 4, 9, 9, 1, -1, -1, -1, 1, 1, 1, 1);
        r.eachDue("asks(2, ?)", 1, 4, 0, 9, 1, 12, 1, -1, 1, 1, 1, 1);
        r.eachDue("asks(3, ?)", 1, 4, 3, 3, 0, -1, -1, 0, 1, 1, 1, 1);
        r.eachDue("asks(4, ?)", 1, 4, 3, 4, 0, -1, -1, 7, 1, 1, 1, 1);
        r.stays("asks(4, 12)", RedSky.OUTSIDE).stays("asks(4, -1)", RedSky.OUTSIDE).stays("asks(5, 0)", RedSky.UNKNOWN);
        r.stays("asks(5, 12)", RedSky.UNKNOWN).stays("asks(-1, 0)", RedSky.UNKNOWN);
    }

    private static void depth(String first, int one, String second, int other) {
        run("depth").say(first + ":0~" + second).due("asks(0, 10)", one).due("asks(0, 11)", other);
    }

    private static void asksDepth() {
        depth("S=1", 1, "!S=1", 2);
        depth("!!!S=1", 4, "(((S=1)))", 1);
        depth("S=1&W=1", 2, "S=1|W=1", 2);
        depth("S=1&W=1&R=1", 2, "S=1|W=1|R=1|T=1", 2);
        depth("S=1&W=1|R=1", 3, "R=1|S=1&W=1", 3);
        depth("(S=1|W=1)&R=1", 3, "R=1&(S=1|W=1)", 3);
        depth("(S=1&W=1)", 2, "((S=1&W=1))", 2);
        depth("(S=1&W=1)&R=1", 3, "S=1&(W=1&R=1)", 3);
        depth("!S=1&W=1", 3, "W=1&!S=1", 3);
        depth("!(S=1&W=1)", 3, "!(S=1)", 2);
        depth("!S=1|W=1&R=1", 3, "!!S=1|W=1&R=1", 4);
        depth("!!(S=1)&W=1|R=1&T=1", 5, "S=1|!(W=1|R=1&!T=1)", 6);
        // of TERMS the deepest, whether it stands first, between or last
        depth("!S=1|W=1|R=1", 3, "S=1|!W=1|R=1", 3);
        depth("S=1|W=1|!R=1", 3, "S=1&W=1&!!R=1", 4);
        depth("S=1&!!W=1&R=1|T=1", 5, "T=1|R=1&S=1|W=1", 3);
    }

    private static void asksOfEach() {
        Run r = run("each of 8 SAYINGS is asked for its own");
        for (int k = 0; k < 8; k++) {
            r.say("!".repeat(k) + "S=1:" + k + "^R>0@" + (k + 1) + "-" + (k + 5));
        }
        for (int k = 0; k < 8; k++) {
            r.eachDue("asks(" + k + ", ?)", 1, 4, k, k, 1, k + 1, k + 5, -1, 1, 1, k + 1, 1);
        }
    }

    // ---- promise 16

    private static void forgets() {
        run("none are forgotten").due("forget()", 0).due("count(0)", 0).due("say()", RedSky.STATE);
        Run r = run("all of 8").say("S=0:0~R>0", "S=1:0~R>0", "S=2:0~R>0", "S=3:0~R>0", "S=0:1~R>0", "S=1:1~R>0", "S=2:1~R>0");
        r.say("S=3:1~R>0").type("S=").due("forget()", 8).due("count(0)", 0).due("count(1)", 2).due("forget()", 0);
        for (int k = 0; k < 8; k++) {
            r.due("asks(" + k + ", 0)", RedSky.UNKNOWN).due("home(" + k + ")", RedSky.UNKNOWN);
        }
        r.due("one(0, 0)", RedSky.UNKNOWN).due("learn(0, 0, 0, 0)", RedSky.UNKNOWN).due("count(3)", 0);
        r.say("T<7:0-9^W>3@#1").eachDue("asks(0, ?)", 8, 2, 0, 9, 1, -1, -1, 1, 1, 1, 1, 1).due("asks(1, 0)", RedSky.UNKNOWN);
        Run.standing(CHECK, "all else stays").due("forget()", 3).eachDue("count(?)", 0, 7, 2, 2).due("list(2)", 365)
            .due("age(1, 3)", 3).due("forget()", 0);
    }
}
