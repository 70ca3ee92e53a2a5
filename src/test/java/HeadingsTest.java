/** Under the headings: each sentence of promises 1 to 34 that names a boundary case, a test of its own. */
public final class HeadingsTest {
    private static final Bench b = new Bench();
    private static final int[] NO_K = {-1, 4, Integer.MIN_VALUE, Integer.MAX_VALUE};
    private static final int[] NO_STEP = {-2, -1, 4, 59, 60, 61, 63, 64, 67, 128, Integer.MIN_VALUE,
        Integer.MAX_VALUE};
    private static final int[] NO_NAME = {-1, 8, 9, 16, Integer.MIN_VALUE, Integer.MAX_VALUE};
    private static final int[] NO_INDEX = {-1, -2, Integer.MIN_VALUE, Integer.MAX_VALUE};
    /** Four STEPS: 0 'if', 1 '=', 2 'while', 3 '='; two WAYS. */
    private static final String TEXT = "if a>3{b=1;}while b<1{b=b+1;}";

    public static void main(String[] args) {
        newPrograms();
        newNothingWalked();
        newAheadOfAny();
        newTape();
        feedComesBehind();
        feedHighestFirst();
        feedBeyond540();
        endKeepsTheFirst();
        endNotSoMany();
        endBelow0();
        programTapeIsEmpty();
        programTellsSteps();
        programTellsAPlace();
        programStays();
        programNoSuchK();
        programWalkedStays();
        faultAheadOfAny();
        faultOfTheLatest();
        faultBehindNoSuchK();
        sizesForgetTheWalk();
        sizesNotAsTold();
        sizesLeaveTheRest();
        walkNoSuch();
        walkLeastAndMost();
        walkAgain();
        wayEachWhat();
        wayNoSuch();
        wayNothingWalked();
        wayBehindTheLastStep();
        wentFirstAndLast();
        wentNoSuch();
        alongFirstAndLast();
        alongNoSuch();
        leastAtEachEnd();
        leastNoSuch();
        leastAtAnyStep();
        mayNoSuch();
        mayNothingWalked();
        lawNoSuch();
        lawNumbersOfBBits();
        coverNothingWalked();
        coverAtNoSuch();
        coverAtOfTheLatest();
        alikeNoSuch();
        safeNoSuch();
        unsafeOfTheLatest();
        ruleNoSuch();
        roundsNoSuch();
        roundsNothingWalked();
        lawsNoneAndAll();
        lawsNoSuch();
        lawAtInOrder();
        lawAtOfTheLatest();
        hangsNoSuch();
        reachFirstAndLast();
        reachNoSuch();
        mendNoSuch();
        mendedOfTheLatest();
        claimTapeIsEmpty();
        claimStays();
        holdsNoClaim();
        proofNoClaim();
        proofAtNoSuch();
        proofAtOfTheLatest();
        checkTapeIsEmpty();
        checkNoClaim();
        runNoSuch();
        runFirstAndLast();
        gotEachNumber();
        gotOfTheLatest();
        gotAheadOfAny();
        countEach();
        call512();
        b.finish();
    }

    // ---- 1 to 6 ------------------------------------------------------------------------------------------------

    private static void newPrograms() {
        AllWays x = new AllWays();
        for (int k = 0; k < 4; k++) {
            b.due("run(" + k + ")", x.run(k, 3, 1), 0);
            b.due("behind the last STEP", x.got(16), -1);
            b.due("no letters are unsafe", x.safe(k, 1), 8);
            b.due("walk(" + k + ")", x.walk(k, 1), 1);
            b.due("no STEPS", Bench.way(x, 0, 5), 0);
            b.due("alike", x.alike(0, k, 1), -1);
        }
        b.close("promise 1: PROGRAMS are empty texts");
    }

    /* What a walk tells, where nothing is walked. */
    private static void nothingWalkedDue(AllWays x) {
        for (int i = -1; i < 3; i++) {
            for (int what = -1; what < 7; what++) {
                b.due("way(" + i + ", " + what + ")", Bench.way(x, i, what), Bench.THROWS);
            }
            b.due("went(" + i + ", 0)", x.went(i, 0), -1);
            b.due("along(" + i + ")", x.along(i), -1);
            b.due("least(" + i + ", -1)", x.least(i, -1), -1);
            b.due("may(" + i + ", 0, 0)", x.may(i, 0, 0), -1);
            b.due("law(" + i + ", 0, 1, 0)", x.law(i, 0, 1, 0), -1);
            b.due("law(" + i + ", 0, 1, 100)", x.law(i, 0, 1, 100), -1);
            b.due("rounds(" + i + ", 0)", x.rounds(i, 0), -1);
            b.due("laws(" + i + ")", x.laws(i), -1);
        }
        b.due("cover()", x.cover(), -1);
    }

    private static void newNothingWalked() {
        nothingWalkedDue(new AllWays());
        AllWays x = Bench.with(TEXT);
        nothingWalkedDue(x);
        x.run(0, 0, 1);
        x.alike(0, 1, 1);
        x.safe(0, 1);
        x.mend(0, 1);
        nothingWalkedDue(x);
        b.close("promise 1: nothing is walked");
    }

    private static void newAheadOfAny() {
        AllWays x = new AllWays();
        for (int k = -1; k < 20; k++) {
            b.due("coverAt(" + k + ")", x.coverAt(k), -1);
            b.due("lawAt(" + k + ")", x.lawAt(k), -1);
            b.due("proofAt(" + k + ")", x.proofAt(k), -1);
            b.due("got(" + k + ")", x.got(k), -1);
        }
        b.due("unsafe()", x.unsafe(), -1);
        b.due("mended()", x.mended(), -1);
        b.due("fault()", x.fault(), 0);
        b.due("holds()", x.holds(), -2);
        b.due("proof()", x.proof(), -2);
        b.due("check()", x.check(), -2);
        b.close("promise 1: ahead of any: cover, laws, proof, run, safe, mend, program, claim");
    }

    private static void newTape() {
        AllWays x = new AllWays();
        b.due("bytes", x.count(3), 0);
        b.due("end(1)", x.end(1), false);
        b.due("end(0)", x.end(0), true);
        b.due("the empty text", x.program(0), 0);
        b.due("the empty CLAIM", x.claim(), -1);
        b.close("promise 1: an empty tape");
    }

    private static void feedComesBehind() {
        AllWays x = new AllWays();
        for (int i = 1; i <= 27; i++) {
            b.due("feed " + i, x.feed(i, i, i, i, i), 20 * i);
            b.due("bytes", x.count(3), 20 * i);
        }
        x.end(3);
        b.due("behind 3 bytes", x.feed(0, 0, 0, 0, 0), 23);
        x = new AllWays();
        x.feed(0x683d0000, 0, 0, 0, 0);
        x.end(2);
        x.feed(0x373b0000, 0, 0, 0, 0);
        x.end(4);
        b.due("h=7;", x.program(0), 1);
        x.run(0, 0, 1);
        b.due("h", x.got(7), 7);
        b.close("promise 2: twenty bytes come behind the tape");
    }

    private static void feedHighestFirst() {
        AllWays x = new AllWays();
        x.feed(0x683d312b, 0x312b322b, 0x332b342a, 0x312b352d, 0x312d313b);
        b.due("h=1+1+2+3+4*1+5-1-1;", x.program(0), 1);
        x.sizes(6, 1, 0);
        x.run(0, 0, 1);
        b.due("h", x.got(7), 14);
        x.feed(0x20202020, 0x20202020, 0x20202020, 0x20202020, 0x20202080);
        b.due("the last byte, 128", x.program(0), -20);
        x.feed(-1, 0, 0, 0, 0);
        b.due("the first byte, 255", x.program(0), -1);
        x.feed(0x20ff2020, 0, 0, 0, 0);
        b.due("the second byte, 255", x.program(0), -2);
        x.feed(0x20202020, 0x80000000, 0, 0, 0);
        b.due("the fifth byte, 128", x.program(0), -5);
        b.close("promise 2: of each number the highest first");
    }

    private static void feedBeyond540() {
        for (int bytes = 519; bytes <= 540; bytes++) {
            AllWays x = new AllWays();
            for (int i = 0; i < 27; i++) {
                x.feed(0x20202020, 0x20202020, 0x20202020, 0x20202020, 0x20202020);
            }
            x.end(bytes);
            b.due("feed behind " + bytes, x.feed(0, 0, 0, 0, 0), bytes <= 520 ? bytes + 20 : -1);
            b.due("bytes then", x.count(3), bytes <= 520 ? bytes + 20 : bytes);
            x.end(500);
            b.due("blanks alone", x.program(0), 0);
            b.due("room again", x.feed(0, 0, 0, 0, 0), 20);
        }
        b.close("promise 2: NONE, and none come, if it would have more than 540");
    }

    private static void endKeepsTheFirst() {
        AllWays x = new AllWays();
        x.feed(0x683d373b, 0x683d363b, 0x683d353b, 0x683d343b, 0x683d333b);
        b.due("all", x.end(20), true);
        b.due("bytes", x.count(3), 20);
        b.due("all but one", x.end(19), true);
        b.due("bytes", x.count(3), 19);
        b.due("eight", x.end(8), true);
        b.due("two STEPS", x.program(0), 2);
        x.run(0, 0, 1);
        b.due("h", x.got(7), 6);
        x.feed(0x683d373b, 0, 0, 0, 0);
        b.due("none", x.end(0), true);
        b.due("bytes", x.count(3), 0);
        b.due("none again", x.end(0), true);
        b.close("promise 3: the tape has its first n bytes alone");
    }

    private static void endNotSoMany() {
        AllWays x = new AllWays();
        b.due("1 of none", x.end(1), false);
        x.feed(0, 0, 0, 0, 0);
        b.due("21 of 20", x.end(21), false);
        b.due("the greatest of 20", x.end(Integer.MAX_VALUE), false);
        b.due("540 of 20", x.end(540), false);
        b.due("bytes", x.count(3), 20);
        x.end(7);
        b.due("8 of 7, though there were 20", x.end(8), false);
        b.due("bytes", x.count(3), 7);
        b.due("7 of 7", x.end(7), true);
        b.close("promise 3: false, if it has not so many");
    }

    private static void endBelow0() {
        AllWays x = new AllWays();
        b.due("-1 of none", x.end(-1), false);
        x.feed(0, 0, 0, 0, 0);
        b.due("-1", x.end(-1), false);
        b.due("-20", x.end(-20), false);
        b.due("the least", x.end(Integer.MIN_VALUE), false);
        b.due("bytes", x.count(3), 20);
        b.close("promise 3: false, if n is below 0");
    }

    private static void programTapeIsEmpty() {
        String[] texts = {"", "end;", "?", "a=256;", "call p;", Bench.times("end;", 61), Bench.times(" ", 540)};
        for (String text : texts) {
            for (int k = -1; k < 5; k++) {
                AllWays x = new AllWays();
                Bench.program(x, k, text);
                b.due("bytes behind " + text, x.count(3), 0);
                b.due("no more", x.end(1), false);
            }
        }
        b.close("promise 4: the tape is empty then, in any case");
    }

    private static void programTellsSteps() {
        for (int steps = 0; steps <= 60; steps++) {
            b.programDue(Bench.times("end;", steps), steps, 0);
        }
        b.close("promise 4: how many STEPS, 0 to 60");
    }

    private static void programTellsAPlace() {
        int[] places = {0, 1, 2, 250, 498, 499};
        for (int place : places) {
            b.programDue(Bench.times(" ", place) + "?", -1 - place, 1);
            b.programDue(Bench.times(" ", place) + "end", -1 - (place > 497 ? 500 : place + 3), 1);
        }
        b.programDue(Bench.times(" ", 500) + "?", -501, 1);
        b.programDue(Bench.times(" ", 497) + "end", -501, 1);
        b.programDue(Bench.times(" ", 496) + "end", -500, 1);
        b.close("promise 4: -1 less the place of a FAULT, 0 to 500");
    }

    private static void programStays() {
        String[] wrong = {"h=7;?", "h=7;a=256;", Bench.times("h=7;", 61), "h=7;call p;", "proc p{h=7;}proc p{}",
            "h=7;" + Bench.times(" ", 497), "h=7"};
        AllWays x = Bench.with("h=3;");
        for (String text : wrong) {
            b.due("a FAULT", Bench.program(x, 0, text) < 0, true);
            x.run(0, 0, 1);
            b.due("PROGRAM 0 stays", x.got(7), 3);
            x.run(1, 0, 1);
            b.due("PROGRAM 1 stays", x.got(7), 0);
        }
        b.due("without one", Bench.program(x, 0, "h=4;"), 1);
        x.run(0, 0, 1);
        b.due("PROGRAM 0 is new", x.got(7), 4);
        b.close("promise 4: behind a FAULT PROGRAM k stays");
    }

    private static void programNoSuchK() {
        AllWays x = Bench.with("h=3;");
        for (int k : NO_K) {
            b.due("program(" + k + ")", Bench.program(x, k, "h=5;"), -1000);
            b.due("with a FAULT", Bench.program(x, k, "?"), -1000);
            b.due("with no text", x.program(k), -1000);
        }
        for (int k = 0; k < 4; k++) {
            x.run(k, 0, 1);
            b.due("PROGRAM " + k + " stays", x.got(7), k == 0 ? 3 : 0);
        }
        b.close("promise 4: -1000: no such k");
    }

    private static void programWalkedStays() {
        AllWays x = Bench.walked(TEXT, 5);
        String[] texts = {"must 0=1;", "?", ""};
        for (String text : texts) {
            Bench.program(x, 0, text);
            b.wayDue(x, 0, 0, -1, 2, 4, 4, 3);
            b.wayDue(x, 1, 0, -1, 3, 4, 0, 4);
            b.mayDue(x, 1, 0, 4, 4, 7);
            b.due("rounds", x.rounds(2, 1), 1);
            b.due("least", x.least(1, -1), -1);
            b.due("law", x.law(1, 0, 2, 103), 1);
        }
        b.coverDue(x, 0, 4);
        b.due("walked anew", x.walk(0, 5), 1);
        b.close("promise 4: what was walked stays");
    }

    private static void faultAheadOfAny() {
        AllWays x = new AllWays();
        b.due("ahead of any", x.fault(), 0);
        x.walk(0, 1);
        x.check();
        b.due("ahead of any", x.fault(), 0);
        Bench.program(x, 0, "end;");
        b.due("without one", x.fault(), 0);
        Bench.claim(x, "a=1");
        b.due("without one", x.fault(), 0);
        b.close("promise 5: 0 without a FAULT and ahead of any");
    }

    private static void faultOfTheLatest() {
        AllWays x = new AllWays();
        String[] texts = {"?", "a=256;", Bench.times("(", 11), "call p;"};
        for (int kind = 1; kind <= 4; kind++) {
            Bench.program(x, kind - 1, kind == 3 ? "a=" + texts[2] : texts[kind - 1]);
            b.due("a program's", x.fault(), kind);
            b.due("asked again", x.fault(), kind);
        }
        Bench.program(x, 0, "");
        b.due("none", x.fault(), 0);
        String[] claims = {"?", "a=256", Bench.times("(", 11)};
        for (int kind = 1; kind <= 3; kind++) {
            Bench.claim(x, claims[kind - 1]);
            b.due("a claim's", x.fault(), kind);
        }
        Bench.claim(x, "a=1");
        b.due("none", x.fault(), 0);
        Bench.claim(x, "a");
        Bench.program(x, 0, "end;");
        b.due("none", x.fault(), 0);
        Bench.program(x, 0, "end");
        Bench.claim(x, "a=1");
        b.due("none", x.fault(), 0);
        b.close("promise 5: the kind of the FAULT of the latest program() or claim()");
    }

    private static void faultBehindNoSuchK() {
        AllWays x = new AllWays();
        Bench.program(x, 4, "?");
        b.due("ahead of any", x.fault(), 0);
        Bench.program(x, 0, "a=256;");
        for (int k : NO_K) {
            Bench.program(x, k, "?");
            b.due("of the one ahead", x.fault(), 2);
            Bench.program(x, k, "");
            b.due("of the one ahead", x.fault(), 2);
        }
        b.close("promise 5: program() that told -1000 counts not");
    }

    private static void sizesForgetTheWalk() {
        AllWays x = Bench.walked(TEXT, 5);
        b.due("the same", x.sizes(3, 1, 0), true);
        nothingWalkedDue(x);
        b.due("walk", x.walk(0, 5), 2);
        b.due("others", x.sizes(2, 1, 0), true);
        nothingWalkedDue(x);
        b.due("walk", x.walk(0, 5), 1);
        b.close("promise 6: nothing is walked then, with the same SIZES, too");
    }

    private static void sizesNotAsTold() {
        AllWays x = Bench.walked(TEXT, 5);
        int[][] wrong = {{1, 1, 0}, {7, 1, 0}, {3, 0, 0}, {2, 4, 0}, {3, 1, -1}, {3, 1, 3}, {5, 3, 0}, {6, 1, 2}};
        for (int[] w : wrong) {
            b.due("sizes", x.sizes(w[0], w[1], w[2]), false);
            b.due("SIZES stay", 100 * x.count(0) + 10 * x.count(1) + x.count(2), 310);
            b.wayDue(x, 0, 0, -1, 2, 4, 4, 3);
            b.due("the last ROW", x.along(7), 0);
            b.due("no ROW", x.along(8), -1);
        }
        b.close("promise 6: false: not as told; what was walked stays then");
    }

    private static void sizesLeaveTheRest() {
        AllWays x = Bench.walked(TEXT, 5);
        x.cover();
        x.laws(1);
        Bench.program(x, 1, "must a<5;must 1=2;");
        x.safe(1, 1);
        Bench.program(x, 2, "must 1=0;");
        x.mend(2, 1);
        Bench.claim(x, "a#a");
        x.proof();
        x.run(0, 7, 5);
        x.feed(0, 0, 0, 0, 0);
        String[] told = new String[2];
        for (int i = 0; i < 2; i++) {
            StringBuilder s = new StringBuilder();
            s.append(x.coverAt(0)).append(' ').append(x.coverAt(1)).append(' ').append(x.lawAt(0)).append(' ');
            s.append(x.unsafe()).append(' ').append(x.mended()).append(' ').append(x.proofAt(0)).append(' ');
            s.append(x.got(0)).append(' ').append(x.got(16)).append(' ').append(x.count(3)).append(' ');
            told[i] = s.append(x.fault()).append(' ').append(x.holds()).toString();
            x.sizes(2, 1, 0);
        }
        b.due("what was told ahead", told[0], "0 4 12 0 0 100 7 -1 20 0 -1");
        b.due("what was told behind sizes()", told[1], told[0]);
        b.close("promise 6: what the latest calls told stays behind sizes()");
    }

    // ---- 7 to 11 -----------------------------------------------------------------------------------------------

    private static void walkNoSuch() {
        AllWays x = Bench.walked(TEXT, 5);
        for (int k : NO_K) {
            b.due("walk(" + k + ", 5)", x.walk(k, 5), -1);
        }
        for (int fuel : new int[] {0, 41, -1, Integer.MIN_VALUE, Integer.MAX_VALUE}) {
            b.due("walk(1, " + fuel + ")", x.walk(1, fuel), -1);
        }
        b.wayDue(x, 0, 0, -1, 2, 4, 4, 3);
        b.due("what was walked stays", x.along(0), 1);
        b.due("walk(3, 1)", x.walk(3, 1), 1);
        b.due("walk(0, 40)", x.walk(0, 40), 2);
        x.sizes(3, 1, 0);
        x.walk(4, 5);
        nothingWalkedDue(x);
        b.close("promise 7: NONE: no such k, FUEL");
    }

    private static void walkLeastAndMost() {
        b.due("one WAY", new AllWays().walk(0, 1), 1);
        AllWays x = Bench.with("while b<a{b=b+1;}", 6, 1, 0);
        b.due("a WAY for each a up to 39, and one for all above", x.walk(0, 40), 41);
        // Twelve DECISIONS, one for each bit: as many WAYS as ROWS.
        StringBuilder s = new StringBuilder();
        for (String name : new String[] {"a", "b"}) {
            for (int bit = 0; bit < 6; bit++) {
                s.append("if ").append(name).append("*").append(32 >> bit).append(">31{}");
            }
        }
        x = Bench.with(s.toString(), 6, 2, 0);
        b.due("4096 WAYS", x.walk(0, 12), 4096);
        b.due("the first WAY: yes of all", Bench.way(x, 0, 4), 4095);
        b.due("the last WAY: no of all", Bench.way(x, 4095, 4), 0);
        b.due("one ROW each", Bench.way(x, 2000, 3), 1);
        b.due("no WAY", Bench.way(x, 4096, 0), Bench.THROWS);
        b.due("along the last ROW", x.along(4095), 0);
        b.due("along the first ROW", x.along(0), 4095);
        b.close("promise 7: how many WAYS: one, and as many as ROWS");
    }

    private static void walkAgain() {
        AllWays x = Bench.walked(TEXT, 5);
        Bench.program(x, 1, "let a=6;end;");
        x.walk(1, 1);
        b.wayDue(x, 0, 4, 0, 0, 7, 0, 1);
        b.wayDue(x, 1, 0, 1, 0, 1, 6, 2);
        b.due("no third WAY", Bench.way(x, 2, 0), Bench.THROWS);
        b.mayDue(x, 0, 0, 1, 6, 6);
        b.due("not BEGUN now", x.may(2, 0, 0), -1);
        b.due("no 'while' now", x.rounds(2, 0), -1);
        b.coverDue(x, 6);
        b.lawDue(x, 0, 0, "0011", 1);
        b.lawDue(x, 0, 0, "0100", 106);
        b.due("laws", x.laws(0), 28);
        x.walk(2, 1);
        b.wayDue(x, 0, 0, -1, 0, 8, 0, 0);
        b.due("no second WAY", Bench.way(x, 1, 0), Bench.THROWS);
        b.coverDue(x);
        // ROWS that ended well by the earlier walk end by 4 now.
        Bench.program(x, 2, "a=a;b=1;");
        x.walk(2, 1);
        b.coverDue(x, 0);
        Bench.program(x, 2, "a=a;let a>4;");
        x.walk(2, 1);
        b.coverDue(x, 5);
        b.close("promise 7: nothing is left of an earlier walk");
    }

    private static void wayEachWhat() {
        AllWays x = Bench.walked(TEXT, 5);
        b.wayDue(x, 0, 0, -1, 2, 4, 4, 3);
        b.wayDue(x, 1, 0, -1, 3, 4, 0, 4);
        x.walk(0, 1);
        b.wayDue(x, 0, 5, 2, 1, 4, 4, 3);
        b.wayDue(x, 1, 5, 2, 1, 4, 0, 2);
        b.close("promise 8: of WAY i, what 0 to 5");
    }

    private static void wayNoSuch() {
        AllWays x = Bench.walked(TEXT, 5);
        for (int i : new int[] {2, 3, 7, 8, 4096, -1, -2, Integer.MIN_VALUE, Integer.MAX_VALUE}) {
            for (int what = 0; what < 6; what++) {
                b.due("way(" + i + ", " + what + ")", Bench.way(x, i, what), Bench.THROWS);
            }
        }
        for (int what : new int[] {-1, 6, 7, Integer.MIN_VALUE, Integer.MAX_VALUE}) {
            b.due("way(0, " + what + ")", Bench.way(x, 0, what), Bench.THROWS);
            b.due("way(1, " + what + ")", Bench.way(x, 1, what), Bench.THROWS);
        }
        b.due("way(1, 5)", Bench.way(x, 1, 5), 4);
        b.close("promise 8: NoSuchElementException: no such one, another what");
    }

    private static void wayNothingWalked() {
        AllWays x = Bench.with(TEXT);
        b.due("ahead of any", Bench.way(x, 0, 0), Bench.THROWS);
        x.walk(0, 0);
        b.due("behind NONE", Bench.way(x, 0, 0), Bench.THROWS);
        x.walk(0, 5);
        b.due("walked", Bench.way(x, 0, 0), 0);
        x.sizes(3, 1, 0);
        b.due("behind sizes()", Bench.way(x, 0, 0), Bench.THROWS);
        b.close("promise 8: NoSuchElementException: nothing walked");
    }

    private static void wayBehindTheLastStep() {
        b.due("behind the last STEP", Bench.way(Bench.walked("a=1;", 1), 0, 1), -1);
        b.due("at 'end'", Bench.way(Bench.walked("a=1;end;", 1), 0, 1), 1);
        b.due("at 'end' in a PROC", Bench.way(Bench.walked("proc p{end;}call p;a=1;", 1), 0, 1), 0);
        b.due("behind the last 'call'", Bench.way(Bench.walked("proc p{a=1;}call p;", 1), 0, 1), -1);
        b.due("behind the last 'while'", Bench.way(Bench.walked("while a>7{}", 1), 0, 1), -1);
        b.due("no STEP at all", Bench.way(Bench.walked("", 1), 0, 1), -1);
        b.due("the 60th STEP", Bench.way(Bench.walked(Bench.times("a=1;", 59) + "end;", 1), 0, 1), 59);
        b.close("promise 8: the STEP at which it ends, NONE behind the last STEP");
    }

    private static void wentFirstAndLast() {
        AllWays x = Bench.walked(TEXT, 5);
        int[][] due = {{1, 0}, {0, 1, 0}};
        for (int i = 0; i < 2; i++) {
            for (int d = 0; d < due[i].length; d++) {
                b.due("went(" + i + ", " + d + ")", x.went(i, d), due[i][d]);
            }
            b.due("went behind the last", x.went(i, due[i].length), -1);
            b.due("went behind the last", x.went(i, due[i].length + 1), -1);
        }
        x = Bench.walked("while 1=1{}", 40);
        for (int d = 0; d < 40; d++) {
            b.due("went(0, " + d + ")", x.went(0, d), 1);
        }
        b.due("went(0, 40)", x.went(0, 40), -1);
        x = Bench.walked("while b<39{b=b+1;}", 40);
        x.sizes(6, 1, 0);
        x.walk(0, 40);
        b.due("went(0, 38)", x.went(0, 38), 1);
        b.due("went(0, 39)", x.went(0, 39), 0);
        b.due("went(0, 40)", x.went(0, 40), -1);
        b.close("promise 9: DECISION d, the first, the last, the 40th");
    }

    private static void wentNoSuch() {
        AllWays x = Bench.walked(TEXT, 5);
        for (int n : NO_INDEX) {
            b.due("went(0, " + n + ")", x.went(0, n), -1);
            b.due("went(" + n + ", 0)", x.went(n, 0), -1);
        }
        b.due("went(2, 0)", x.went(2, 0), -1);
        b.due("went(0, 40)", x.went(0, 40), -1);
        b.due("went(0, 64)", x.went(0, 64), -1);
        b.due("a WAY without DECISIONS", Bench.walked("end;", 1).went(0, 0), -1);
        x.sizes(3, 1, 0);
        b.due("nothing walked", x.went(0, 0), -1);
        b.close("promise 9: NONE: there is none such, or nothing walked");
    }

    private static void alongFirstAndLast() {
        AllWays x = Bench.walked(TEXT, 5);
        for (int row = 0; row < 8; row++) {
            b.due("along(" + row + ")", x.along(row), row > 3 ? 0 : 1);
        }
        x.sizes(6, 1, 1);
        x.walk(0, 5);
        b.due("along(0)", x.along(0), 1);
        b.due("along(63)", x.along(63), 0);
        b.due("along(64)", x.along(64), 1);
        b.due("along(4095)", x.along(4095), 0);
        b.due("along(4096)", x.along(4096), -1);
        b.close("promise 10: the WAY of a ROW, the first, the last");
    }

    private static void alongNoSuch() {
        AllWays x = Bench.walked(TEXT, 5);
        for (int row : NO_INDEX) {
            b.due("along(" + row + ")", x.along(row), -1);
        }
        b.due("along(8)", x.along(8), -1);
        b.due("along(7)", x.along(7), 0);
        x.sizes(6, 2, 0);
        x.walk(0, 5);
        x.sizes(2, 1, 0);
        b.due("nothing walked", x.along(0), -1);
        x.walk(0, 5);
        b.due("along(3)", x.along(3), 0);
        b.due("along(4), one of the earlier walk", x.along(4), -1);
        b.close("promise 10: NONE: no such one, or nothing walked");
    }

    private static void leastAtEachEnd() {
        AllWays x = Bench.with("must a#9;b=4/(a-10);if a>12{c=cell[a];}let a#11;if a=12{while 1=1{}}end;", 4, 1, 0);
        x.walk(0, 5);
        int[][] due = {{0, 7, 0}, {1, 0, 9}, {2, 1, 10}, {3, 3, 13}, {4, 4, 11}, {5, 6, 12}};
        for (int[] d : due) {
            for (int end = -1; end < 8; end++) {
                b.due("least(" + end + ", " + d[1] + ")", x.least(end, d[1]), end == d[0] ? d[2] : -1);
            }
            b.due("least(" + d[0] + ", -1)", x.least(d[0], -1), d[2]);
        }
        b.close("promise 11: the least ROW that ends by an end (0 to 5) at a STEP");
    }

    private static void leastNoSuch() {
        AllWays x = Bench.walked("must a<4;", 1);
        for (int end : new int[] {-1, -2, 6, 7, 8, 9, 16, Integer.MIN_VALUE, Integer.MAX_VALUE}) {
            b.due("least(" + end + ", -1)", x.least(end, -1), -1);
            b.due("least(" + end + ", 0)", x.least(end, 0), -1);
        }
        for (int step : new int[] {-2, 1, 2, 59, 60, 64, Integer.MIN_VALUE, Integer.MAX_VALUE}) {
            b.due("least(0, " + step + ")", x.least(0, step), -1);
            b.due("least(1, " + step + ")", x.least(1, step), -1);
        }
        b.due("none", x.least(2, -1), -1);
        b.due("none at that STEP", x.least(0, 0), -1);
        b.due("one", x.least(1, 0), 4);
        x.sizes(3, 1, 0);
        b.due("nothing walked", x.least(1, 0), -1);
        b.close("promise 11: NONE: none, no such end, or nothing walked");
    }

    private static void leastAtAnyStep() {
        AllWays x = Bench.walked("if a=6{must 0=1;}if a=5{must 0=1;}if a=3{end;}", 5);
        b.due("the least of two STEPS", x.least(1, -1), 5);
        b.due("at the first", x.least(1, 1), 6);
        b.due("at the second", x.least(1, 3), 5);
        b.due("behind the last STEP and at 'end'", x.least(0, -1), 0);
        b.due("at 'end'", x.least(0, 5), 3);
        b.close("promise 11: NONE for the STEP: at any");
    }

    // ---- 12 to 15, 20 to 22 ------------------------------------------------------------------------------------

    private static void mayNoSuch() {
        AllWays x = Bench.walked(TEXT, 5);
        for (int step : NO_STEP) {
            b.mayDue(x, step, 0, -1, -1, -1);
        }
        for (int name : NO_NAME) {
            b.mayDue(x, 0, name, -1, -1, -1);
        }
        for (int what : new int[] {-1, 3, 4, Integer.MIN_VALUE, Integer.MAX_VALUE}) {
            b.due("may(0, 0, " + what + ")", x.may(0, 0, what), -1);
        }
        b.mayDue(x, 0, 0, 8, 0, 7);
        b.mayDue(x, 2, 7, 1, 0, 0);
        x = Bench.walked(Bench.times("a=1;", 60), 5);
        b.mayDue(x, 59, 7, 1, 0, 0);
        b.mayDue(x, 60, 7, -1, -1, -1);
        b.mayDue(x, 64, 7, -1, -1, -1);
        b.close("promise 12: NONE: no such STEP, NAME, what");
    }

    private static void mayNothingWalked() {
        AllWays x = Bench.with(TEXT);
        b.mayDue(x, 0, 0, -1, -1, -1);
        x.walk(0, 5);
        b.mayDue(x, 0, 0, 8, 0, 7);
        x.sizes(3, 1, 0);
        b.mayDue(x, 0, 0, -1, -1, -1);
        b.close("promise 12: NONE: nothing walked");
    }

    private static void lawNoSuch() {
        AllWays x = Bench.walked(TEXT, 5);
        for (int step : NO_STEP) {
            b.due("law(" + step + ", 1, 1, 2)", x.law(step, 1, 1, 2), -1);
            b.due("law(" + step + ", 1, 1, 100)", x.law(step, 1, 1, 100), -1);
        }
        for (int name : NO_NAME) {
            b.due("law(0, " + name + ", 1, 2)", x.law(0, name, 1, 2), -1);
            b.due("law(0, 1, 1, " + name + ")", x.law(0, 1, 1, name), -1);
            b.due("law(0, " + name + ", 1, 100)", x.law(0, name, 1, 100), -1);
        }
        for (int r : new int[] {-1, 4, 5, 32, Integer.MIN_VALUE, Integer.MAX_VALUE}) {
            b.due("law(0, 1, " + r + ", 2)", x.law(0, 1, r, 2), -1);
            b.due("law(0, 1, " + r + ", 100)", x.law(0, 1, r, 100), -1);
        }
        b.due("law(0, 7, 1, 6)", x.law(0, 7, 1, 6), 1);
        b.due("law(0, 0, 0, 107)", x.law(0, 0, 0, 107), 0);
        x.sizes(3, 1, 0);
        b.due("nothing walked", x.law(0, 7, 1, 6), -1);
        b.close("promise 13: NONE: not as told, or nothing walked");
    }

    private static void lawNumbersOfBBits() {
        for (int bits = 2; bits <= 6; bits++) {
            AllWays x = Bench.with("end;", bits, 1, 0);
            x.walk(0, 1);
            int top = (1 << bits) - 1;
            for (int other = 90; other < 170; other++) {
                int number = other - 100;
                int due = number < 0 || number > top ? -1 : 0;
                b.due("law(0, 0, 2, " + other + ")", x.law(0, 0, 2, other), due);
                b.due("law(0, 1, 1, " + other + ")", x.law(0, 1, 1, other), due == -1 ? -1 : number == 0 ? 1 : 0);
            }
            b.due("a is no greater", x.law(0, 0, 2, 100 + top), 0);
            b.due("no such number", x.law(0, 0, 2, 101 + top), -1);
            b.due("b is less", x.law(0, 1, 0, 100 + top), 1);
        }
        b.close("promise 13: 100 and a number of B bits");
    }

    private static void coverNothingWalked() {
        AllWays x = Bench.with(TEXT);
        b.due("ahead of any walk", x.cover(), -1);
        x.walk(0, 0);
        b.due("behind NONE", x.cover(), -1);
        x.walk(0, 5);
        b.coverDue(x, 0, 4);
        x.sizes(3, 1, 0);
        b.due("behind sizes()", x.cover(), -1);
        b.close("promise 14: NONE: nothing walked");
    }

    private static void coverAtNoSuch() {
        AllWays x = Bench.walked("if a=3{b=1;}else{b=2;}", 1);
        b.due("ahead of any", x.coverAt(0), -1);
        b.coverDue(x, 0, 3);
        for (int k : NO_INDEX) {
            b.due("coverAt(" + k + ")", x.coverAt(k), -1);
        }
        b.due("coverAt(2)", x.coverAt(2), -1);
        x = Bench.walked("if a=3{b=1;}", 1);
        b.coverDue(x, 3);
        b.due("no second ROW", x.coverAt(1), -1);
        x = Bench.walked("", 1);
        b.coverDue(x);
        b.close("promise 15: NONE: there is none such, or ahead of any");
    }

    private static void coverAtOfTheLatest() {
        AllWays x = Bench.walked("if a=3{b=1;}else{b=2;}", 1);
        b.coverDue(x, 0, 3);
        Bench.program(x, 1, "if a=1{b=1;}if a=4{b=1;}if a=6{b=1;}");
        x.walk(1, 5);
        b.due("three are needed", x.cover(), -1);
        b.due("0 stays", x.coverAt(0), 0);
        b.due("1 stays", x.coverAt(1), 3);
        x.sizes(3, 1, 0);
        b.due("nothing walked", x.cover(), -1);
        b.due("1 stays", x.coverAt(1), 3);
        Bench.program(x, 1, "if a=5{b=1;}");
        x.walk(1, 5);
        b.due("walk() alone changes nothing", x.coverAt(1), 3);
        b.coverDue(x, 5);
        x.walk(2, 5);
        b.coverDue(x);
        b.close("promise 15: of the latest cover() that was not NONE");
    }

    private static void roundsNoSuch() {
        AllWays x = Bench.walked(TEXT, 5);
        for (int step : NO_STEP) {
            b.due("rounds(" + step + ", 0)", x.rounds(step, 0), -1);
            b.due("rounds(" + step + ", 1)", x.rounds(step, 1), -1);
        }
        for (int what : new int[] {-1, 2, 3, Integer.MIN_VALUE, Integer.MAX_VALUE}) {
            b.due("rounds(2, " + what + ")", x.rounds(2, what), -1);
        }
        b.due("an 'if'", x.rounds(0, 0), -1);
        b.due("a '='", x.rounds(1, 1), -1);
        b.due("the least", x.rounds(2, 0), 0);
        b.due("the greatest", x.rounds(2, 1), 1);
        x = Bench.walked(Bench.times("a=1;", 59) + "while 1=1{}", 5);
        b.due("the 60th STEP", x.rounds(59, 1), 5);
        b.due("the 60th STEP", x.rounds(59, 0), 5);
        b.due("no 61st", x.rounds(60, 0), -1);
        b.due("0 and 64 are not one", Bench.walked("while a>7{}", 1).rounds(64, 0), -1);
        b.close("promise 20: NONE: it is no 'while', another what");
    }

    private static void roundsNothingWalked() {
        AllWays x = Bench.with("while a<3{a=a+1;}");
        b.due("ahead of any", x.rounds(0, 0), -1);
        x.walk(0, 5);
        b.due("the greatest", x.rounds(0, 1), 3);
        x.walk(1, 5);
        b.due("of another walk", x.rounds(0, 1), -1);
        x.walk(0, 5);
        x.sizes(3, 1, 0);
        b.due("behind sizes()", x.rounds(0, 1), -1);
        b.close("promise 20: NONE: nothing walked");
    }

    private static void lawsNoneAndAll() {
        AllWays x = Bench.walked("let a=0;while h=0{b=1;c=2;d=3;e=4;f=5;g=6;h=7;}end;", 5);
        b.due("all are like", x.laws(0), 28);
        b.due("the last", x.lawAt(27), 671);
        b.due("all are like, then rising", x.laws(1), 0);
        b.due("none", x.lawAt(0), -1);
        b.due("rising", x.laws(9), 28);
        b.due("the first", x.lawAt(0), 10);
        b.due("the last", x.lawAt(27), 670);
        b.due("no more", x.lawAt(28), -1);
        b.close("promise 21: how many LAWS: none, and all 28");
    }

    private static void lawsNoSuch() {
        AllWays x = Bench.walked(TEXT, 5);
        for (int step : NO_STEP) {
            b.due("laws(" + step + ")", x.laws(step), -1);
        }
        b.due("laws(0)", x.laws(0), 21);
        b.due("laws(1)", x.laws(1), 28);
        b.due("laws(3)", x.laws(3), 21);
        Bench.program(x, 0, Bench.times("a=1;", 60));
        x.walk(0, 1);
        b.due("laws(59)", x.laws(59), 28);
        b.due("laws(60)", x.laws(60), -1);
        x.sizes(3, 1, 0);
        b.due("nothing walked", x.laws(0), -1);
        b.close("promise 21: NONE: no such STEP, or nothing walked");
    }

    private static void lawAtInOrder() {
        AllWays x = Bench.with("let a<b;let b<c;end;", 3, 3, 0);
        x.walk(0, 1);
        b.due("laws(2)", x.laws(2), 23);
        int[] due = {10, 20, 120, 132, 142, 152, 162, 172, 232, 242, 252, 262, 272, 341, 351, 361, 371, 451, 461, 471,
            561, 571, 671};
        for (int k = 0; k < due.length; k++) {
            b.due("lawAt(" + k + ")", x.lawAt(k), due[k]);
        }
        b.due("lawAt(23)", x.lawAt(23), -1);
        for (int k : NO_INDEX) {
            b.due("lawAt(" + k + ")", x.lawAt(k), -1);
        }
        b.close("promise 22: by the first NAME, then the other one; none such");
    }

    private static void lawAtOfTheLatest() {
        AllWays x = Bench.walked("let a=0;b=1;end;", 1);
        b.due("ahead of any", x.lawAt(0), -1);
        b.due("NONE ahead of any", x.laws(3), -1);
        b.due("ahead of any but NONE", x.lawAt(0), -1);
        x.laws(2);
        b.due("of STEP 2", x.lawAt(0), 10);
        for (int step : NO_STEP) {
            x.laws(step);
            b.due("stays behind NONE", x.lawAt(0), 10);
            b.due("stays behind NONE", x.lawAt(27), 671);
        }
        x.walk(1, 1);
        b.due("stays behind another walk", x.lawAt(0), 10);
        b.due("no STEP", x.laws(0), -1);
        x.sizes(3, 1, 0);
        b.due("nothing walked", x.laws(0), -1);
        b.due("stays", x.lawAt(0), 10);
        x.walk(0, 1);
        x.laws(1);
        b.due("of STEP 1", x.lawAt(0), 11);
        b.close("promise 22: of the latest laws() that was not NONE");
    }

    // ---- 16 to 19, 23 to 26 ------------------------------------------------------------------------------------

    private static void alikeNoSuch() {
        AllWays x = Bench.with("h=a;");
        for (int k : NO_K) {
            b.due("alike(" + k + ", 0, 1)", x.alike(k, 0, 1), -2);
            b.due("alike(0, " + k + ", 1)", x.alike(0, k, 1), -2);
            b.due("alike(" + k + ", " + k + ", 1)", x.alike(k, k, 1), -2);
        }
        for (int fuel : new int[] {0, 41, -1, Integer.MIN_VALUE, Integer.MAX_VALUE}) {
            b.due("alike(0, 1, " + fuel + ")", x.alike(0, 1, fuel), -2);
        }
        b.due("alike(0, 3, 40)", x.alike(0, 3, 40), 1);
        b.due("alike(3, 0, 1)", x.alike(3, 0, 1), 1);
        b.due("alike(2, 3, 1)", x.alike(2, 3, 1), -1);
        b.close("promise 16: -2: no such ones, FUEL");
    }

    private static void safeNoSuch() {
        AllWays x = Bench.with("must a#4;");
        b.due("safe(0, 1)", x.safe(0, 1), 7);
        for (int k : NO_K) {
            b.due("safe(" + k + ", 1)", x.safe(k, 1), -1);
        }
        for (int fuel : new int[] {0, 41, -1, Integer.MIN_VALUE, Integer.MAX_VALUE}) {
            b.due("safe(1, " + fuel + ")", x.safe(1, fuel), -1);
        }
        b.due("the latest stays", x.unsafe(), 4);
        b.due("safe(3, 40)", x.safe(3, 40), 8);
        b.close("promise 17: NONE: no such ones");
    }

    private static void unsafeOfTheLatest() {
        AllWays x = Bench.with("must a#4;must a#6;");
        b.due("ahead of any", x.unsafe(), -1);
        x.safe(4, 1);
        b.due("ahead of any but NONE", x.unsafe(), -1);
        x.safe(0, 1);
        b.due("the least", x.unsafe(), 4);
        x.safe(-1, 1);
        b.due("stays behind NONE", x.unsafe(), 4);
        x.rule(0, 1);
        x.walk(1, 1);
        b.due("stays behind others", x.unsafe(), 4);
        x.safe(1, 1);
        b.due("none", x.unsafe(), -1);
        Bench.program(x, 1, "must a>0;");
        x.safe(1, 1);
        b.due("the first letters", x.unsafe(), 0);
        Bench.program(x, 1, "must a<7;");
        x.safe(1, 1);
        b.due("the last letters", x.unsafe(), 7);
        b.close("promise 18: by the latest safe() that was not NONE; NONE: none, or ahead of any");
    }

    private static void ruleNoSuch() {
        AllWays x = Bench.with("ask b;must b=5;");
        for (int k : NO_K) {
            b.due("rule(" + k + ", 1)", x.rule(k, 1), -2);
        }
        for (int fuel : new int[] {0, 41, -1, Integer.MIN_VALUE, Integer.MAX_VALUE}) {
            b.due("rule(0, " + fuel + ")", x.rule(0, fuel), -2);
        }
        b.due("rule(0, 1)", x.rule(0, 1), 5);
        b.due("rule(0, 40)", x.rule(0, 40), 5);
        b.due("rule(3, 1)", x.rule(3, 1), 0);
        x.sizes(2, 1, 0);
        b.due("5 is 1", x.rule(0, 1), 1);
        b.close("promise 19: -2: no such ones; NONE: there is none");
    }

    private static void hangsNoSuch() {
        AllWays x = Bench.with("h=a+b+c;");
        for (int k : NO_K) {
            b.due("hangs(" + k + ", 0, 1)", x.hangs(k, 0, 1), -2);
        }
        for (int fuel : new int[] {0, 41, -1, Integer.MIN_VALUE, Integer.MAX_VALUE}) {
            b.due("hangs(0, 0, " + fuel + ")", x.hangs(0, 0, fuel), -2);
        }
        for (int letters = 1; letters <= 3; letters++) {
            x.sizes(2, letters, 0);
            for (int l = 0; l < 5; l++) {
                b.due("hangs(0, " + l + ", 1)", x.hangs(0, l, 1), l < letters ? 0 : -2);
                b.due("hangs(1, " + l + ", 1)", x.hangs(1, l, 1), l < letters ? -1 : -2);
            }
            for (int l : NO_INDEX) {
                b.due("hangs(0, " + l + ", 1)", x.hangs(0, l, 1), -2);
            }
        }
        b.close("promise 23: -2: no such ones");
    }

    private static void reachFirstAndLast() {
        for (int bits = 2; bits <= 6; bits++) {
            AllWays x = Bench.with("h=a;", bits, 1, 0);
            int top = (1 << bits) - 1;
            b.due("0", x.reach(0, 0, 1), 0);
            b.due("the greatest", x.reach(0, top, 1), top);
            b.due("none", x.reach(1, top, 1), -1);
            Bench.program(x, 0, "h=a/2;");
            b.due("the least of two", x.reach(0, 1, 1), 2);
        }
        String[] ends = {"end;", "must 0=1;", "b=1/0;", "b=cell[8];", "let 0=1;", "while 1=1{}"};
        for (int end = 0; end < 6; end++) {
            AllWays x = Bench.with("h=a;if a=9{" + ends[end] + "}", 4, 1, 0);
            b.due("end " + end, x.reach(0, 9, 5), end == 0 ? 9 : -1);
            // An end is no number of h.
            x = Bench.with(ends[end], 6, 1, 0);
            for (int v = 1; v < 64; v += 3) {
                b.due("v " + v + " with end " + end, x.reach(0, v, 5), -1);
            }
        }
        b.close("promise 24: the least ROW that ends by 0 with h being v; NONE: none");
    }

    private static void reachNoSuch() {
        AllWays x = Bench.with("h=a;");
        for (int k : NO_K) {
            b.due("reach(" + k + ", 0, 1)", x.reach(k, 0, 1), -2);
        }
        for (int fuel : new int[] {0, 41, -1, Integer.MIN_VALUE, Integer.MAX_VALUE}) {
            b.due("reach(0, 0, " + fuel + ")", x.reach(0, 0, fuel), -2);
        }
        for (int bits = 2; bits <= 6; bits++) {
            x.sizes(bits, 1, 0);
            b.due("2^B less 1", x.reach(0, (1 << bits) - 1, 1), (1 << bits) - 1);
            b.due("2^B", x.reach(0, 1 << bits, 1), -2);
            for (int v : new int[] {-1, 101, 105, Integer.MIN_VALUE, Integer.MAX_VALUE}) {
                b.due("v " + v, x.reach(0, v, 1), -2);
            }
        }
        b.close("promise 24: -2: no such ones (v of B bits)");
    }

    private static void mendNoSuch() {
        AllWays x = Bench.with("must 0=1;");
        for (int k : NO_K) {
            b.due("mend(" + k + ", 1)", x.mend(k, 1), -2);
        }
        for (int fuel : new int[] {0, 41, -1, Integer.MIN_VALUE, Integer.MAX_VALUE}) {
            b.due("mend(0, " + fuel + ")", x.mend(0, fuel), -2);
        }
        b.due("mend(0, 1)", x.mend(0, 1), 0);
        b.due("mend(3, 40)", x.mend(3, 40), -1);
        x.sizes(3, 3, 0);
        b.due("SIZES too great", x.mend(0, 1), -2);
        x.sizes(4, 2, 0);
        b.due("SIZES not too great", x.mend(0, 1), 0);
        b.close("promise 25: -2: no such ones, or SIZES too great");
    }

    private static void mendedOfTheLatest() {
        AllWays x = Bench.with("must 0=1;");
        b.due("ahead of any", x.mended(), -1);
        x.mend(1, 1);
        x.mend(4, 1);
        b.due("ahead of any that told one", x.mended(), -1);
        x.mend(0, 1);
        b.due("told", x.mended(), 1);
        x.mend(1, 1);
        b.due("stays behind no need", x.mended(), 1);
        Bench.program(x, 1, "must a#a;");
        x.mend(1, 1);
        b.due("stays behind none", x.mended(), 1);
        x.mend(0, 0);
        x.mend(-1, 1);
        b.due("stays behind -2", x.mended(), 1);
        x.sizes(3, 3, 0);
        x.mend(0, 1);
        b.due("stays behind SIZES too great", x.mended(), 1);
        x.sizes(3, 1, 0);
        Bench.program(x, 2, "must c=5;");
        x.mend(2, 1);
        b.due("0 is told, too", x.mended(), 0);
        b.close("promise 26: by the latest mend() that told one; NONE ahead of any");
    }

    // ---- 27 to 34 ----------------------------------------------------------------------------------------------

    private static void claimTapeIsEmpty() {
        String[] texts = {"", "a=1", "?", "a=256", Bench.times("(", 11), Bench.times(" ", 540), "a=1;"};
        for (String text : texts) {
            AllWays x = new AllWays();
            Bench.claim(x, text);
            b.due("bytes behind " + text, x.count(3), 0);
            b.due("no more", x.end(1), false);
        }
        b.close("promise 27: the tape is empty then, in any case");
    }

    private static void claimStays() {
        AllWays x = new AllWays();
        Bench.claim(x, "a=5");
        String[] wrong = {"", "?", "a=3 and", "a=256", "a=3" + Bench.times(" and a=3", 20),
            "a=3" + Bench.times(" ", 498), "a=" + Bench.times("(", 11), "a=3;"};
        for (String text : wrong) {
            b.due("a FAULT", Bench.claim(x, text) < 0, true);
            b.due("the CLAIM stays", x.holds(), 5);
        }
        b.due("another one", Bench.claim(x, "a=3"), 1);
        b.due("is it now", x.holds(), 3);
        Bench.program(x, 0, "must a=7;");
        b.due("program() leaves it", x.holds(), 3);
        x = new AllWays();
        Bench.claim(x, "a=3 and");
        b.due("there is none still", x.holds(), -2);
        b.due("there is none still", x.proof(), -2);
        b.close("promise 27: behind a FAULT the CLAIM stays");
    }

    private static void holdsNoClaim() {
        AllWays x = new AllWays();
        b.due("no CLAIM", x.holds(), -2);
        x.sizes(6, 2, 0);
        b.due("no CLAIM", x.holds(), -2);
        Bench.claim(x, "a#a");
        b.due("none", x.holds(), -1);
        Bench.claim(x, "b=63");
        b.due("a ROW", x.holds(), 63 * 64);
        x.sizes(2, 1, 0);
        b.due("63 is 3, b is 0", x.holds(), -1);
        b.close("promise 28: NONE: none; -2: there is no CLAIM");
    }

    private static void proofNoClaim() {
        AllWays x = new AllWays();
        b.due("no CLAIM", x.proof(), -2);
        Bench.claim(x, "?");
        b.due("no CLAIM", x.proof(), -2);
        Bench.claim(x, "a=1");
        b.due("there is none", x.proof(), -1);
        Bench.claim(x, "a#a");
        b.due("one byte", x.proof(), 1);
        x.sizes(3, 3, 0);
        b.due("SIZES too great", x.proof(), -2);
        b.close("promise 29: NONE: there is none; -2: no CLAIM, or SIZES too great");
    }

    private static void proofAtNoSuch() {
        AllWays x = new AllWays();
        b.due("ahead of any", x.proofAt(0), -1);
        Bench.claim(x, "a>3 and a<4");
        b.due("ahead of any", x.proofAt(0), -1);
        b.proofDue(x, 2, 100, 101);
        for (int k : NO_INDEX) {
            b.due("proofAt(" + k + ")", x.proofAt(k), -1);
        }
        b.due("proofAt(511)", x.proofAt(511), -1);
        b.close("promise 30: NONE: there is none such, or ahead of any");
    }

    private static void proofAtOfTheLatest() {
        AllWays x = new AllWays();
        Bench.claim(x, "a>3 and a<4");
        x.proof();
        Bench.claim(x, "a=1");
        b.due("there is none", x.proof(), -1);
        b.due("stays", x.proofAt(0) * 1000000 + x.proofAt(1) * 1000 + x.proofAt(2), 2100101);
        x.sizes(6, 2, 0);
        b.due("-2", x.proof(), -2);
        Bench.check(x, 100);
        b.due("stays", x.proofAt(2), 101);
        x.sizes(3, 1, 0);
        Bench.check(x, 0, 1, 2);
        b.due("stays behind check()", x.proofAt(0), 2);
        Bench.claim(x, "a#a");
        b.proofDue(x, 100);
        b.due("no more of the earlier one", x.proofAt(1), -1);
        b.close("promise 30: of the latest proof() that told some");
    }

    private static void checkTapeIsEmpty() {
        int[][] proofs = {{}, {100}, {0}, {255, 255}, {2, 100, 101}};
        for (int[] proof : proofs) {
            AllWays x = new AllWays();
            Bench.check(x, proof);
            b.due("bytes, no CLAIM", x.count(3), 0);
            Bench.claim(x, "a>3 and a<4");
            Bench.check(x, proof);
            b.due("bytes", x.count(3), 0);
            x.sizes(3, 3, 0);
            Bench.check(x, proof);
            b.due("bytes, SIZES too great", x.count(3), 0);
        }
        b.close("promise 31: the tape is empty then, in any case");
    }

    private static void checkNoClaim() {
        AllWays x = new AllWays();
        b.due("no CLAIM", Bench.check(x, 100), -2);
        Bench.claim(x, "?");
        b.due("no CLAIM", Bench.check(x, 100), -2);
        Bench.claim(x, "a#a");
        b.due("a PROOF", Bench.check(x, 100), -1);
        b.due("none", Bench.check(x), 0);
        x.sizes(3, 3, 0);
        b.due("SIZES too great", Bench.check(x, 100), -2);
        b.due("SIZES too great", Bench.check(x), -2);
        x.sizes(4, 2, 0);
        b.due("a PROOF", Bench.check(x, 100), -1);
        b.close("promise 31: -2: no CLAIM, or SIZES too great");
    }

    private static void runNoSuch() {
        AllWays x = Bench.with("h=a;");
        b.due("run(0, 6, 1)", x.run(0, 6, 1), 0);
        for (int k : NO_K) {
            b.due("run(" + k + ", 0, 1)", x.run(k, 0, 1), -1);
        }
        for (int row : new int[] {8, 9, 4096, -1, Integer.MIN_VALUE, Integer.MAX_VALUE}) {
            b.due("run(0, " + row + ", 1)", x.run(0, row, 1), -1);
        }
        for (int fuel : new int[] {0, 41, -1, Integer.MIN_VALUE, Integer.MAX_VALUE}) {
            b.due("run(0, 0, " + fuel + ")", x.run(0, 0, fuel), -1);
        }
        b.due("got stays", x.got(7), 6);
        b.due("run(3, 0, 40)", x.run(3, 0, 40), 0);
        b.close("promise 32: NONE: no such ones");
    }

    private static void runFirstAndLast() {
        int[][] sizes = {{2, 1, 0}, {3, 1, 0}, {6, 1, 0}, {2, 2, 2}, {4, 3, 0}, {6, 1, 1}, {2, 3, 2}};
        for (int[] s : sizes) {
            AllWays x = Bench.with("", s[0], s[1], s[2]);
            int rows = 1 << (s[0] * (s[1] + s[2]));
            b.due("the first ROW", x.run(0, 0, 1), 0);
            b.due("the last ROW", x.run(0, rows - 1, 1), 0);
            b.due("none behind it", x.run(0, rows, 1), -1);
            b.due("none ahead of it", x.run(0, -1, 1), -1);
        }
        String[] ends = {"end;", "must 0=1;", "b=1/0;", "b=cell[8];", "let 0=1;", "while 1=1{}"};
        for (int end = 0; end < 6; end++) {
            b.due("end " + end, Bench.with(ends[end], 4, 1, 0).run(0, 0, 1), end);
        }
        b.close("promise 32: the RUN of a ROW, the first, the last: how it ends, 0 to 5");
    }

    private static void gotEachNumber() {
        AllWays x = Bench.with("b=2;c=3;d=4;e=5;f=6;g=7;h=8;cell[0]=9;cell[1]=10;cell[2]=11;cell[3]=12;cell[4]=13;"
                + "cell[5]=14;cell[6]=15;cell[7]=1;end;", 4, 1, 0);
        x.run(0, 1, 1);
        int[] due = {1, 2, 3, 4, 5, 6, 7, 8, 9, 10, 11, 12, 13, 14, 15, 1, 15};
        for (int n = 0; n < due.length; n++) {
            b.due("got(" + n + ")", x.got(n), due[n]);
        }
        for (int n : new int[] {-1, 17, 18, Integer.MIN_VALUE, Integer.MAX_VALUE}) {
            b.due("got(" + n + ")", x.got(n), -1);
        }
        b.endDue("a=1;", 0, -1);
        b.endDue("end;", 0, 0);
        b.close("promise 33: NAME n (0 to 7), CELL n less 8 (8 to 15), 16 the STEP; NONE: another n");
    }

    private static void gotOfTheLatest() {
        AllWays x = Bench.with("h=a;cell[1]=a;end;");
        x.run(0, 6, 1);
        x.run(0, 8, 1);
        x.run(4, 0, 1);
        x.run(0, 0, 41);
        b.due("stays behind NONE", x.got(7) * 100 + x.got(9) * 10 + x.got(16), 662);
        x.walk(0, 1);
        x.alike(0, 1, 1);
        x.safe(0, 1);
        x.rule(0, 1);
        x.hangs(0, 0, 1);
        x.reach(0, 3, 1);
        x.mend(0, 1);
        Bench.claim(x, "a=3");
        x.holds();
        x.proof();
        Bench.check(x, 100);
        Bench.program(x, 0, "h=1;");
        x.sizes(2, 1, 0);
        b.due("stays behind others", x.got(7) * 100 + x.got(9) * 10 + x.got(16), 662);
        x.run(0, 2, 1);
        b.due("of the latest", x.got(7) * 100 + x.got(9) * 10 + x.got(16), 99);
        b.close("promise 33: of the latest run() that was not NONE");
    }

    private static void gotAheadOfAny() {
        AllWays x = new AllWays();
        x.run(0, 8, 1);
        x.run(0, -1, 1);
        x.run(-1, 0, 1);
        x.walk(0, 1);
        for (int n = -1; n < 18; n++) {
            b.due("got(" + n + ")", x.got(n), -1);
        }
        x.run(0, 0, 1);
        b.due("behind one", x.got(0), 0);
        b.close("promise 33: NONE ahead of any");
    }

    private static void countEach() {
        AllWays x = new AllWays();
        x.sizes(5, 1, 1);
        x.feed(0, 0, 0, 0, 0);
        x.end(17);
        int[] due = {5, 1, 1, 17};
        for (int what = 0; what < 4; what++) {
            b.due("count(" + what + ")", x.count(what), due[what]);
        }
        for (int what : new int[] {-1, 4, 5, Integer.MIN_VALUE, Integer.MAX_VALUE}) {
            b.due("count(" + what + ")", x.count(what), -1);
        }
        for (int i = 0; i < 26; i++) {
            x.feed(0, 0, 0, 0, 0);
        }
        b.due("all but 3", x.count(3), 537);
        b.close("promise 34: NONE for another what");
    }

    /* Of four calls that go round 127 times, behind three others, the last one is the 511th; then the 512th. */
    private static void call512() {
        AllWays x = new AllWays();
        x.feed(0x69662061, 0x3e337b68, 0x3d613b7d, 0x20202020, 0x20202020);
        b.due("if a>3{h=a;}", x.program(0), 2);
        b.due("sizes", x.sizes(6, 2, 0), true);
        for (int i = 0; i < 127; i++) {
            b.due("walk", x.walk(0, 40), 2);
            b.due("run", x.run(0, 4095, 1), 0);
            b.due("reach", x.reach(0, 63, 1), 63);
            b.due("along", x.along(i), i % 64 > 3 ? 0 : 1);
        }
        b.due("the 512th call", x.cover(), 1);
        b.close("What it is: 512 calls of one object");
    }
}
