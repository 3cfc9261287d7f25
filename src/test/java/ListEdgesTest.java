/** The boundary cases of promises 27 to 29, each sentence a run of its own. */
public final class ListEdgesTest {
    private static final Check CHECK = new Check("ListEdgesTest");
    private static final int NONE = RedSky.NONE;

    public static void main(String[] args) {
        noListYet();
        noDays();
        noYearsAllYears();
        yearsAsBits();
        seamsOfYears();
        moreThanHalf();
        halfOfAnEntry();
        entryThatTellsNothing();
        sizes();
        oneSayingOnly();
        unlikeSayings();
        fewestEntries();
        leastFirstThenSecond();
        firstEntryTells();
        openDaysOfTheTarget();
        openFirst();
        seasons();
        judgedAsItWas();
        latestList();
        learnedAnew();
        twelveTimes();
        refusedIsNotDone();
        entriesBeyond();
        CHECK.end();
    }

    /** SAYINGS: 0 asks for S=1, 1 for W=1, 2 for T=1, 3 for T=2; their SECOND is R>0 on the DAY itself. */
    private static Run run(String name) {
        return new Run(CHECK, name).say("S=1:0~R>0", "W=1:0~R>0", "T=1:0~R>0", "T=2:0~R>0");
    }

    /** DAYS from n on, told by four letters each: S, W, R, T; - is a gap. */
    private static Run keep(Run r, int n, String... days) {
        for (int i = 0; i < days.length; i++) {
            for (int f = 0; f < 4; f++) {
                char c = days[i].charAt(f);
                r.go("set(0, " + (n + i) + ", " + f + ", " + (c == '-' ? 0 : c - '0') + ", " + (c != '-') + ")");
            }
        }
        return r;
    }

    private static Run listIs(Run r, long... want) {
        return r.eachDue("list(?)", want);
    }

    // ---- promise 29, ahead of the first

    private static void noListYet() {
        Run r = run("there is none").eachDue("list(?)", NONE, NONE, NONE, NONE, NONE, NONE).eachDue("entry(?)", NONE, NONE, NONE);
        r.stays("list(-1)", RedSky.OUTSIDE).stays("list(6)", RedSky.OUTSIDE).due("entry(-1)", NONE);
        r.go("learn(0, 4, 0, 0)", "learn(0, 0, 3, 0)").eachDue("list(?)", NONE, NONE, NONE, NONE, NONE, NONE);
    }

    // ---- promise 27

    private static void noDays() {
        Run r = run("no DAYS: NO, without ENTRIES").due("learn(0, 0, 2, 15)", 0);
        listIs(r, 0, 0, 0, 0, 0, 0).eachDue("entry(?)", NONE, NONE);
        keep(r, 0, "11-1", "00-0").due("learn(0, 0, 2, 15)", 0);
        listIs(r, 0, 0, 0, 0, 0, 0);
    }

    private static void noYearsAllYears() {
        Run r = keep(run("YEARS as bits, 0 to 15"), 0, "--1-", "--1-", "--0-");
        r.due("learn(0, 0, 2, 0)", 0);
        listIs(r, 0, 0, 0, 0, 3, 1);
        r.due("learn(0, 0, 2, 15)", 2);
        listIs(r, 1, 0, 3, 2, 0, 0);
        r.due("learn(0, 0, 2, 14)", 0);
        listIs(r, 0, 0, 0, 0, 3, 1);
        r.stays("learn(0, 0, 2, 16)", RedSky.OUTSIDE).stays("learn(0, 0, 2, -1)", RedSky.OUTSIDE);
    }

    private static void yearsAsBits() {
        for (int y = 0; y < 4; y++) {
            Run r = run("bit " + y + " is YEAR " + y);
            for (int n = 0; n < 4; n++) {
                keep(r, 365 * n, n == y ? "--1-" : "--0-");
            }
            r.due("learn(0, 0, 0, " + (1 << y) + ")", 1);
            listIs(r, 1, 0, 1, 1, 3, 0);
            r.due("learn(0, 0, 0, " + (15 - (1 << y)) + ")", 3);
            listIs(r, 0, 0, 3, 3, 1, 0);
        }
    }

    private static void seamsOfYears() {
        Run r = run("the first and the last DAY of a YEAR are of it");
        for (int n : new int[] {0, 364, 365, 729, 730, 1094, 1095, 1460}) {
            keep(r, n, "--1-");
        }
        for (int y = 0; y < 4; y++) {
            r.due("learn(0, 0, 0, " + (1 << y) + ")", 2);
            listIs(r, 1, 0, 2, 2, 6, 6);
        }
    }

    private static void moreThanHalf() {
        keep(run("the last word: just half is NO"), 0, "--1-", "--0-").due("learn(0, 0, 0, 1)", 1).due("list(0)", 0);
        keep(run("one more is YES"), 0, "--1-", "--0-", "--1-").due("learn(0, 0, 0, 1)", 2).due("list(0)", 1);
        keep(run("one less is NO"), 0, "--1-", "--0-", "--0-").due("learn(0, 0, 0, 1)", 2).due("list(0)", 0);
        keep(run("one DAY"), 0, "--1-").due("learn(0, 0, 0, 1)", 1).due("list(0)", 1);
    }

    private static void halfOfAnEntry() {
        // S=1 tells on one wet and one dry DAY, which leaves W=1 the dry ones and the last word the wet ones
        Run r = keep(run("an ENTRY: just half is NO"), 0, "111-", "100-", "010-", "010-", "001-", "001-");
        r.due("learn(0, 0, 2, 1)", 5).eachDue("entry(?)", 0, 2, NONE);
        listIs(r, 1, 2, 6, 5, 0, 0);
        Run s = new Run(CHECK, "an ENTRY: more than half is YES, less is NO").say("W>0:0~R>0");
        keep(s, 0, "-11-", "-10-", "-01-", "-01-").due("learn(0, 0, 1, 1)", 3).due("list(1)", 0).due("list(0)", 1);
        keep(s, 4, "-10-", "-01-").due("learn(0, 0, 1, 1)", 5).due("entry(0)", 0).due("list(0)", 1);
        keep(s, 2, "-00-", "-00-").due("learn(0, 0, 1, 1)", 4).due("list(1)", 0).due("list(0)", 0);
        keep(s, 4, "-11-", "-00-").due("learn(0, 0, 1, 1)", 5).due("entry(0)", 1).due("list(0)", 0);
    }

    private static void entryThatTellsNothing() {
        Run r = keep(run("an ENTRY that tells on no DAY makes no better LIST"), 0, "001-", "001-");
        r.due("learn(0, 0, 2, 1)", 2).due("list(1)", 0).due("entry(0)", NONE);
    }

    private static Run twoWanted(String name) {
        // T=1: wet, else W=1: dry, else wet; T=2 tells nothing
        return keep(run(name), 0, "0111", "0111", "0100", "0100", "0100", "0010", "0010", "0010", "0010");
    }

    private static void sizes() {
        Run r = twoWanted("size 0, 1 and 2").due("learn(0, 0, 0, 1)", 6);
        listIs(r, 1, 0, 9, 6, 0, 0).eachDue("entry(?)", NONE, NONE, NONE);
        r.due("learn(0, 0, 1, 1)", 7);
        listIs(r, 1, 1, 9, 7, 0, 0).eachDue("entry(?)", 2, NONE, NONE);
        r.due("learn(0, 0, 2, 1)", 9);
        listIs(r, 1, 2, 9, 9, 0, 0).eachDue("entry(?)", 5, 2, NONE);
        r.stays("learn(0, 0, 3, 1)", RedSky.OUTSIDE).stays("learn(0, 0, -1, 1)", RedSky.OUTSIDE).due("list(1)", 2);
    }

    private static void oneSayingOnly() {
        Run r = new Run(CHECK, "of one SAYING no LIST has two ENTRIES").say("W=1:0~R>0");
        keep(r, 0, "-11-", "-11-", "-00-").due("learn(0, 0, 2, 1)", 3);
        listIs(r, 0, 1, 3, 3, 0, 0).eachDue("entry(?)", 1, NONE);
    }

    private static void unlikeSayings() {
        Run r = new Run(CHECK, "the last of 8 SAYINGS may be an ENTRY, and the TARGET too");
        r.say("S=3:0~R>0", "S=3:0~R>0", "S=3:0~R>0", "S=3:0~R>0", "S=3:0~R>0", "S=3:0~R>0", "T=1:0~R>0", "W=1:0~R>0");
        keep(r, 0, "0111", "0111", "0100", "0100", "0100", "0010", "0010", "0010", "0010").due("learn(0, 7, 2, 1)", 9);
        listIs(r, 1, 2, 9, 9, 0, 0).eachDue("entry(?)", 13, 14, NONE);
    }

    private static void fewestEntries() {
        Run r = keep(run("of like ones that of fewest ENTRIES"), 0, "1110", "1110", "0001");
        r.due("learn(0, 0, 2, 1)", 3);
        listIs(r, 0, 1, 3, 3, 0, 0).eachDue("entry(?)", 1, NONE);
        keep(r, 2, "0010").due("learn(0, 0, 2, 1)", 3);
        listIs(r, 1, 0, 3, 3, 0, 0);
    }

    private static void leastFirstThenSecond() {
        Run r = new Run(CHECK, "of like ones the least SAYING first, then second");
        r.say("S=3:0~R>0", "T=1:0~R>0", "W=1:0~R>0", "T=1:0~R>0", "W=1:0~R>0");
        keep(r, 0, "0011", "0110", "0000", "0000", "0000").due("learn(0, 0, 2, 1)", 5).eachDue("entry(?)", 3, 5, NONE);
        Run one = new Run(CHECK, "of like ones the least SAYING").say("S=3:0~R>0", "W=1:0~R>0", "T=1:0~R>0");
        keep(one, 0, "0111", "0000").due("learn(0, 0, 1, 1)", 2).eachDue("entry(?)", 3, NONE);
        keep(one, 0, "0111", "0000").due("learn(0, 0, 2, 1)", 2).eachDue("entry(?)", 3, NONE);
        Run back = new Run(CHECK, "though the greater SAYING stands first, if that alone is right");
        back.say("W=1:0~R>0", "T=1:0~R>0").go("count(0)");
        keep(back, 0, "0111", "0111", "0100", "0100", "0100", "0010", "0010", "0010", "0010").due("learn(0, 0, 2, 1)", 9);
        back.eachDue("entry(?)", 3, 0, NONE);
    }

    private static void firstEntryTells() {
        Run r = twoWanted("the first ENTRY that is TRUE tells, the others do not");
        // on DAYS of the other YEARS both are TRUE: the first, YES, tells
        keep(r, 365, "0111", "0111", "0101", "0100", "0000");
        r.due("learn(0, 0, 2, 1)", 9);
        listIs(r, 1, 2, 9, 9, 5, 3).eachDue("entry(?)", 5, 2, NONE);
    }

    private static void openDaysOfTheTarget() {
        Run r = new Run(CHECK, "DAYS on which THE SECOND of the TARGET is not OPEN").say("W=1:1-2~R>0");
        keep(r, 1457, "--1-", "--1-", "--1-", "--0-").due("learn(0, 0, 0, 8)", 3);
        listIs(r, 1, 0, 3, 3, 0, 0);
        keep(r, 1460, "----").due("learn(0, 0, 0, 8)", 2).due("list(2)", 2);
        keep(r, 1456, "--0-").due("learn(0, 0, 0, 8)", 3).due("list(2)", 3);
        Run s = new Run(CHECK, "THE FIRST and the SEASON of the TARGET do not matter").say("W=1:0~R>0@#0", "S=1:0~R>0");
        keep(s, 700, "---1", "--1-", "--0-", "--1-").due("learn(0, 0, 2, 2)", 2);
        listIs(s, 1, 0, 3, 2, 0, 0);
    }

    private static void openFirst() {
        Run r = keep(run("an ENTRY whose FIRST is OPEN does not tell"), 0, "-11-", "-11-", "-00-", "-00-", "-00-");
        keep(r, 365, "--0-", "-11-", "-10-", "-00-").due("learn(0, 0, 1, 1)", 5);
        listIs(r, 0, 1, 5, 5, 4, 3).due("entry(0)", 3);
        Run s = new Run(CHECK, "one gap of two FIELDS").say("W=1|S=1:0~R>0");
        keep(s, 0, "-10-", "-10-", "011-", "011-").due("learn(0, 0, 1, 1)", 4).due("entry(0)", 1).due("list(0)", 0);
    }

    private static void seasons() {
        Run r = new Run(CHECK, "an ENTRY out of its SEASON does not tell").say("W=1:0~R>0@2-2", "W=1:0~R>0@#5");
        r.go("saint(5, 2, 10, 0, 0)");
        keep(r, 30, "-10-", "-11-", "-11-").due("learn(0, 0, 1, 1)", 3).eachDue("entry(?)", 1, NONE).due("list(0)", 0);
        keep(r, 59, "-10-").due("learn(0, 0, 1, 1)", 4).eachDue("entry(?)", 1, NONE);
        Run s = new Run(CHECK, "that SAINT's DAY alone").say("W=9:0~R>0", "W=1:0~R>0@#5").go("saint(5, 2, 10, 0, 0)");
        keep(s, 39, "-10-", "-11-", "-10-").due("learn(0, 0, 1, 1)", 3).eachDue("entry(?)", 3, NONE);
    }

    private static void judgedAsItWas() {
        Run r = keep(run("told as it was when it was LEARNED"), 0, "-11-", "-11-", "-00-");
        keep(r, 365, "-11-", "-11-", "-10-").due("learn(0, 0, 2, 1)", 3);
        listIs(r, 0, 1, 3, 3, 3, 2).eachDue("entry(?)", 3, NONE);
        keep(r, 365, "-00-", "-00-", "-00-");
        listIs(r, 0, 1, 3, 3, 3, 2);
        r.go("write(0, 0, 1, 0)", "forget()");
        listIs(r, 0, 1, 3, 3, 3, 2).eachDue("entry(?)", 3, NONE);
        r.go("first(3)");
        listIs(r, 0, 1, 3, 3, 3, 2).eachDue("entry(?)", 3, NONE).due("count(3)", 1);
    }

    private static void latestList() {
        Run r = twoWanted("the latest LIST alone").due("learn(0, 0, 2, 1)", 9).due("list(1)", 2);
        r.due("learn(0, 0, 2, 2)", 0);
        listIs(r, 0, 0, 0, 0, 9, 3).eachDue("entry(?)", NONE, NONE);
        r.due("learn(0, 0, 1, 1)", 7).eachDue("entry(?)", 2, NONE);
        r.due("learn(1, 0, 2, 15)", 0);
        listIs(r, 0, 0, 0, 0, 0, 0).eachDue("entry(?)", NONE, NONE);
    }

    private static void learnedAnew() {
        Run r = new Run(CHECK, "nothing of the LIST ahead is left").say("W=1:0~R>0@#2", "S=1:0~R>0@2-3").go("saint(2, 1, 1, 0, 0)");
        keep(r, 0, "011-", "110-", "010-", "000-");
        keep(r, 365, "011-", "110-", "011-");
        r.due("learn(0, 0, 2, 1)", 4);
        listIs(r, 0, 1, 4, 4, 3, 2).eachDue("entry(?)", 1, NONE);
        // on the SAINT's DAY THE FIRST is FALSE now, and YEAR 1 is a gap
        keep(r, 365, "01--", "11--", "01--");
        r.go("saint(2, 1, 4, 0, 0)").due("learn(0, 0, 2, 1)", 3);
        listIs(r, 0, 0, 4, 3, 0, 0).eachDue("entry(?)", NONE, NONE);
        keep(r, 0, "01--").due("learn(0, 0, 2, 3)", 3);
        listIs(r, 0, 0, 3, 3, 0, 0);
        r.due("learn(0, 1, 2, 2)", 0);
        listIs(r, 0, 0, 0, 0, 3, 3);
    }

    private static void twelveTimes() {
        Run r = twoWanted("it was done 12 times");
        for (int i = 1; i <= 11; i++) {
            r.due("learn(0, 0, 0, 1)", 6).due("count(3)", i);
        }
        r.due("learn(0, 0, 2, 1)", 9).due("count(3)", 12).stays("learn(0, 0, 0, 1)", RedSky.STATE);
        listIs(r, 1, 2, 9, 9, 0, 0).eachDue("entry(?)", 5, 2).due("count(3)", 12);
        r.stays("learn(0, 0, 3, 1)", RedSky.OUTSIDE).stays("learn(0, 4, 0, 1)", RedSky.UNKNOWN);
        r.go("first(1)", "forget()").say("S=1:0~R>0").stays("learn(0, 0, 0, 1)", RedSky.STATE).due("count(3)", 12);
    }

    private static void refusedIsNotDone() {
        Run r = twoWanted("what is refused is not done").due("learn(0, 0, 2, 1)", 9);
        for (String call : new String[] {"learn(3, 0, 0, 0)", "learn(-1, 0, 0, 0)", "learn(0, 4, 0, 0)", "learn(0, -1, 0, 0)"}) {
            r.stays(call, RedSky.UNKNOWN);
        }
        for (String call : new String[] {"learn(0, 0, 3, 0)", "learn(0, 0, -1, 0)", "learn(0, 0, 0, 16)", "learn(0, 0, 0, -1)"}) {
            r.stays(call, RedSky.OUTSIDE);
        }
        r.due("count(3)", 1);
        listIs(r, 1, 2, 9, 9, 0, 0);
    }

    // ---- promise 28

    private static void entriesBeyond() {
        Run r = twoWanted("NONE: there are not so many").due("learn(0, 0, 2, 1)", 9);
        r.eachDue("entry(?)", 5, 2, NONE, NONE).due("entry(-1)", NONE).due("entry(MIN)", NONE).due("entry(MAX)", NONE);
        r.due("learn(0, 0, 1, 1)", 7).eachDue("entry(?)", 2, NONE, NONE).due("entry(-1)", NONE);
        r.due("learn(0, 0, 0, 1)", 6).eachDue("entry(?)", NONE, NONE, NONE).due("entry(-1)", NONE);
        r.stays("list(6)", RedSky.OUTSIDE).stays("list(-1)", RedSky.OUTSIDE).stays("list(MAX)", RedSky.OUTSIDE);
        r.stays("list(MIN)", RedSky.OUTSIDE);
    }
}
