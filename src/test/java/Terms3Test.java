/** Terms 3: each sentence about what a walk tells, and what PROGRAMS do, that names a boundary case. */
public final class Terms3Test {
    private static final Bench b = new Bench();
    /** With 4 bits and any FUEL: a text for each end, 0 to 5. */
    private static final String[] ENDS = {"end;", "must 0=1;", "b=1/0;", "b=cell[8];", "let 0=1;", "while 1=1{}"};
    /** SIZES with B times L and O of 8 at most, of 8, and above it. */
    private static final int[][] SMALL = {{2, 1, 0}, {3, 1, 1}, {3, 2, 0}, {6, 1, 0}, {2, 2, 1}};
    private static final int[][] EIGHT = {{2, 3, 1}, {2, 2, 2}, {4, 1, 1}, {4, 2, 0}};
    private static final int[][] ABOVE = {{3, 3, 0}, {3, 2, 1}, {3, 1, 2}, {5, 1, 1}, {5, 2, 0}, {2, 3, 2}, {6, 2, 0},
        {6, 1, 1}, {4, 3, 0}, {4, 1, 2}, {3, 2, 2}};

    public static void main(String[] args) {
        mayOfNone();
        mayOfOnlyEnd4();
        mayLeavesOutEnd4();
        mayOfOtherEnds();
        mayWheneverBegun();
        mayOfAllNumbers();
        lawOfNone();
        lawLeavesOutEnd4();
        lawWheneverBegun();
        lawOfNames();
        lawOfNumbers();
        lawOfNumbersOf6Bits();
        coverOfNone();
        coverOfOne();
        coverOfTwo();
        coverOfThree();
        coverOfLikeOnesTheFirst();
        coverLeavesOutEnd4();
        coverOfOtherEnds();
        coverOfTheLastStep();
        roundsOfNone();
        roundsInOneRun();
        roundsToTheFuel();
        roundsLeaveOutEnd4();
        roundsWhereAllEndBy4();
        hangsByEnds();
        hangsByH();
        hangsInThatLetterAlone();
        hangsTheLeast();
        mendedNoNeed();
        mendedEachHarm();
        mendedInto4And5();
        mendedFirstTwenty();
        mendedWhichNumbers();
        mendedFirstAndLeast();
        mendedFromNoneToAll();
        mendedByNone();
        mendedForAllRows();
        mendedSizes();
        alikeByEnds();
        alikeByH();
        alikeLeastRow();
        safeWithAllAnswers();
        safeNoneAndAll();
        safeEnds();
        ruleForEachAnswer();
        ruleLeastAndNone();
        ruleForAllLetters();
        ruleEnds();
        b.finish();
    }

    private static AllWays walked(String text, int bits, int letters, int answers) {
        AllWays x = Bench.with(text, bits, letters, answers);
        x.walk(0, 40);
        return x;
    }

    private static AllWays walked(String text) {
        return walked(text, 3, 1, 0);
    }

    // ---- MAY and LAWS ------------------------------------------------------------------------------------------

    private static void noneDue(AllWays x, int step) {
        for (int name = 0; name < 8; name++) {
            b.mayDue(x, step, name, -1, -1, -1);
            for (int r = 0; r < 4; r++) {
                b.due("law with itself", x.law(step, name, r, name), -1);
                b.due("law with a number", x.law(step, name, r, 100), -1);
            }
        }
        b.due("laws(" + step + ")", x.laws(step), -1);
        b.due("lawAt(0)", x.lawAt(0), -1);
    }

    private static void mayOfNone() {
        AllWays x = walked("if a=8-9{if 0=1{end;}}else{end;a=1;}end;");
        noneDue(x, 2);
        noneDue(x, 4);
        b.mayDue(x, 1, 0, 1, 7, 7);
        b.mayDue(x, 3, 0, 7, 0, 6);
        noneDue(x, 6);
        b.close("Terms 3: MAY, LAWS at a STEP that nothing BEGINS");
    }

    private static void mayOfOnlyEnd4() {
        AllWays x = walked("if a=5{b=1;let 0=1;b=2;}end;");
        noneDue(x, 1);
        noneDue(x, 2);
        noneDue(x, 3);
        b.mayDue(x, 4, 0, 7, 0, 7);
        x = walked("a=a;let 0=1;a=a;");
        noneDue(x, 0);
        noneDue(x, 1);
        noneDue(x, 2);
        b.close("Terms 3: MAY, LAWS at a STEP that only RUNS BEGIN that end by 4");
    }

    private static void mayLeavesOutEnd4() {
        AllWays x = walked("if a=7{let 0=1;}if a=0{let 0=1;}end;");
        b.mayDue(x, 0, 0, 6, 1, 6);
        b.mayDue(x, 2, 0, 6, 1, 6);
        b.mayDue(x, 4, 0, 6, 1, 6);
        x = walked("ask b;let b<a;end;", 2, 1, 1);
        b.mayDue(x, 0, 0, 3, 1, 3);
        b.mayDue(x, 1, 1, 3, 0, 2);
        b.mayDue(x, 2, 0, 3, 1, 3);
        b.close("Terms 3: MAY: all RUNS of a ROW that ends by 4 are left out, ahead of the 'let', too");
    }

    private static void mayOfOtherEnds() {
        AllWays x = walked("must a#1;b=4/(a-2);c=cell[a*4];while a=4{}", 4, 1, 0);
        b.mayDue(x, 0, 0, 16, 0, 15);
        b.mayDue(x, 1, 0, 15, 0, 15);
        // No 1 and 2.
        b.mayDue(x, 2, 0, 14, 0, 15);
        // Only 4 times 0, 4, 5, 8, 9, 12 and 13 are CELLS.
        b.mayDue(x, 3, 0, 7, 0, 13);
        b.close("Terms 3: MAY: RUNS that end by 0, 1, 2, 3, 5");
    }

    private static void mayWheneverBegun() {
        AllWays x = walked("let a=3;while b<a{b=b+1;}b=7;end;");
        b.mayDue(x, 0, 1, 1, 0, 0);
        b.mayDue(x, 1, 1, 4, 0, 3);
        b.mayDue(x, 2, 1, 3, 0, 2);
        b.mayDue(x, 3, 1, 1, 3, 3);
        b.mayDue(x, 4, 1, 1, 7, 7);
        x = walked("proc p{b=b+1;}call p;call p;call p;");
        b.mayDue(x, 0, 1, 3, 0, 2);
        b.close("Terms 3: MAY: whenever the STEP is BEGUN, ahead of what it does");
    }

    private static void mayOfAllNumbers() {
        for (int bits = 2; bits <= 6; bits++) {
            int top = (1 << bits) - 1;
            AllWays x = walked("end;", bits, 1, 0);
            b.mayDue(x, 0, 0, top + 1, 0, top);
            b.mayDue(x, 0, 1, 1, 0, 0);
            x = walked("let a=0-1;end;", bits, 1, 0);
            b.mayDue(x, 1, 0, 1, top, top);
            x = walked("let a=0;end;", bits, 1, 0);
            b.mayDue(x, 1, 0, 1, 0, 0);
            x = walked("let a=0 or a=0-1;end;", bits, 1, 0);
            b.mayDue(x, 1, 0, 2, 0, top);
        }
        b.close("Terms 3: MAY: one number, and all 2^B");
    }

    private static void lawOfNone() {
        AllWays x = walked("if a>7{end;}let a=a;");
        for (int r = 0; r < 4; r++) {
            b.due("law(1, 0, " + r + ", 1)", x.law(1, 0, r, 1), -1);
            b.due("law(1, 0, " + r + ", 100)", x.law(1, 0, r, 100), -1);
            b.due("law(3, 0, " + r + ", 100)", x.law(3, 0, r, 100), -1);
        }
        b.lawDue(x, 2, 1, "0100", 2);
        b.close("Terms 3: a LAW at a STEP that is never BEGUN");
    }

    private static void lawLeavesOutEnd4() {
        AllWays x = walked("b=4;let a>b;end;");
        b.lawDue(x, 0, 0, "0011", 104);
        b.lawDue(x, 0, 0, "0011", 1);
        b.lawDue(x, 1, 0, "0011", 1);
        b.lawDue(x, 2, 1, "1001", 0);
        b.lawDue(x, 2, 0, "0000", 105);
        x = walked("b=4;must a>b;end;");
        b.lawDue(x, 1, 0, "0000", 1);
        b.lawDue(x, 2, 0, "0011", 1);
        b.close("Terms 3: a LAW HOLDS in the RUNS that do not end by 4");
    }

    private static void lawWheneverBegun() {
        AllWays x = walked("while b<a{b=b+1;}end;");
        b.lawDue(x, 0, 1, "0000", 0);
        b.lawDue(x, 1, 1, "1001", 0);
        b.lawDue(x, 1, 0, "0011", 1);
        b.lawDue(x, 2, 1, "0100", 0);
        // Once of all the times it is not so.
        x = walked("while b<5{b=b+1;if b=5{c=b;}}end;");
        b.lawDue(x, 0, 2, "0000", 1);
        b.lawDue(x, 2, 1, "0011", 2);
        b.lawDue(x, 4, 1, "0100", 2);
        b.close("Terms 3: a LAW HOLDS, if it is so whenever the STEP is BEGUN");
    }

    private static void lawOfNames() {
        AllWays x = walked("let a>0;let a<7;b=a-1;c=a+1;d=a;end;");
        b.lawDue(x, 5, 0, "0011", 1);
        b.lawDue(x, 5, 1, "1001", 0);
        b.lawDue(x, 5, 0, "1001", 2);
        b.lawDue(x, 5, 2, "0011", 0);
        b.lawDue(x, 5, 2, "0011", 1);
        b.lawDue(x, 5, 3, "0100", 0);
        b.lawDue(x, 5, 6, "0000", 1);
        b.lawDue(x, 5, 0, "0100", 3);
        b.lawDue(x, 5, 7, "0100", 6);
        b.lawDue(x, 5, 7, "1001", 0);
        b.lawDue(x, 5, 7, "0000", 1);
        for (int name = 0; name < 8; name++) {
            b.lawDue(x, 5, name, "0100", name);
        }
        b.close("Terms 3: LAW: NAME R NAME, each R, with itself, too");
    }

    private static void lawOfNumbers() {
        AllWays x = walked("let a>2;let a<6;end;");
        b.lawDue(x, 2, 0, "0011", 100);
        b.lawDue(x, 2, 0, "0011", 102);
        b.lawDue(x, 2, 0, "0000", 103);
        b.lawDue(x, 2, 0, "0000", 104);
        b.lawDue(x, 2, 0, "0000", 105);
        b.lawDue(x, 2, 0, "1001", 106);
        b.lawDue(x, 2, 0, "1001", 107);
        b.lawDue(x, 2, 1, "0100", 100);
        b.lawDue(x, 2, 1, "1001", 101);
        b.close("Terms 3: LAW: NAME R a number, each R");
    }

    private static void lawOfNumbersOf6Bits() {
        AllWays x = walked("let a=63;end;", 6, 1, 0);
        b.lawDue(x, 1, 0, "0100", 163);
        b.lawDue(x, 1, 0, "0011", 162);
        b.lawDue(x, 1, 0, "0011", 100);
        b.lawDue(x, 1, 1, "1001", 163);
        x = walked("let a<63;end;", 6, 1, 0);
        b.lawDue(x, 1, 0, "1001", 163);
        b.lawDue(x, 1, 0, "0000", 162);
        x = walked("let a>0;end;", 6, 1, 0);
        b.lawDue(x, 1, 0, "0011", 100);
        b.lawDue(x, 1, 0, "0000", 101);
        b.lawDue(x, 1, 0, "0000", 163);
        b.close("Terms 3: LAW: the least and the greatest number of 6 bits");
    }

    // ---- COVER and ROUNDS --------------------------------------------------------------------------------------

    private static void coverOfNone() {
        b.coverDue(walked(""));
        b.coverDue(walked("let 0=1;"));
        b.coverDue(walked("a=1;let a#1;end;"));
        b.coverDue(walked("proc p{end;}"));
        b.coverDue(walked("let a#a;", 6, 2, 0));
        b.close("Terms 3: a COVER of no ROWS");
    }

    private static void coverOfOne() {
        b.coverDue(walked("end;"), 0);
        b.coverDue(walked("end;a=1;"), 0);
        b.coverDue(walked("if a=6{end;}"), 6);
        b.coverDue(walked("if a>5{end;}"), 6);
        b.coverDue(walked("if a=7{end;}"), 7);
        b.coverDue(walked("if a>2{b=1;}if a<6{b=1;}if a=5 or a=4{b=1;}"), 4);
        b.coverDue(walked("if a=63{if b=63{end;}}", 6, 2, 0), 4095);
        b.close("Terms 3: a COVER of one ROW");
    }

    private static void coverOfTwo() {
        b.coverDue(walked("if a=6{end;}else{end;}"), 0, 6);
        b.coverDue(walked("if a=1{b=1;}if a=4{b=1;}"), 1, 4);
        b.coverDue(walked("if a=6{b=1;}if a=7{b=1;}"), 6, 7);
        b.coverDue(walked("if a=0{b=1;}if a=7{b=1;}"), 0, 7);
        b.coverDue(walked("if a=63{if b=63{end;}}else{end;}", 6, 2, 0), 0, 4095);
        b.close("Terms 3: a COVER of two ROWS");
    }

    private static void coverOfThree() {
        AllWays x = walked("if a=1{b=1;}if a=4{b=1;}if a=6{b=1;}");
        b.due("cover()", x.cover(), -1);
        b.due("ahead of any", x.coverAt(0), -1);
        b.due("two would do for these", walked("if a=1 or a=6{b=1;}if a=4{b=1;}if a=6{b=1;}").cover(), 2);
        b.due("eight", walked("if a=0{end;}if a=1{end;}if a=2{end;}if a=3{end;}if a=4{end;}if a=5{end;}").cover(), -1);
        b.close("Terms 3: COVER: 2 ROWS at most");
    }

    private static void coverOfLikeOnesTheFirst() {
        b.coverDue(walked("if a>3{b=1;}"), 4);
        b.coverDue(walked("if a>3{b=1;}else{b=2;}"), 0, 4);
        b.coverDue(walked("if a=1 or a=2{b=1;}if a=1 or a=3{b=1;}if a=7 or a=2{b=1;}if a=7 or a=3{b=1;}"), 1, 7);
        b.coverDue(walked("if a=7 or a=2{b=1;}if a=7 or a=3{b=1;}if a=1 or a=2{b=1;}if a=1 or a=3{b=1;}"), 1, 7);
        b.coverDue(walked("if a=2 or a=5{b=1;}if a=6 or a=4{b=1;}"), 2, 4);
        b.close("Terms 3: COVER: of like ones the first (the lesser ROWS, one by one, rising)");
    }

    private static void coverLeavesOutEnd4() {
        b.coverDue(walked("if a=6{let 0=1;}end;"), 0);
        b.coverDue(walked("if a=0{let 0=1;}end;"), 1);
        b.coverDue(walked("if a>3{b=1;}else{b=2;}if a=0 or a=4{let 0=1;}"), 1, 5);
        b.coverDue(walked("if a=1{b=1;}if a=4{b=1;}if a=6{b=1;let 0=1;}"), 1, 4);
        b.coverDue(walked("let a=7;end;"), 7);
        b.coverDue(walked("let a>4;"), 5);
        b.coverDue(walked("let a>4;if a=6{end;}else{end;}"), 5, 6);
        b.close("Terms 3: COVER: ROWS that do not end by 4, STEPS that such ROWS BEGIN");
    }

    private static void coverOfOtherEnds() {
        for (int end = 0; end < 6; end++) {
            AllWays x = walked("if a=5{" + ENDS[end] + "}", 4, 1, 0);
            b.coverDue(x, end == 4 ? 0 : 5);
        }
        b.close("Terms 3: COVER: ROWS of every other end count");
    }

    private static void coverOfTheLastStep() {
        b.coverDue(walked(Bench.times("b=1;", 58) + "if a=6{b=1;}"), 6);
        b.coverDue(walked(Bench.times("b=1;", 58) + "if a=6{b=1;}else{}"), 6);
        b.coverDue(walked("if a=6{b=1;}" + Bench.times("b=1;", 58)), 6);
        AllWays x = walked(Bench.times("b=1;", 58) + "if a=6{b=1;}");
        b.mayDue(x, 59, 0, 1, 6, 6);
        b.close("Terms 3: COVER: the 60th STEP counts, too");
    }

    private static void roundsDue(AllWays x, int step, int least, int greatest) {
        b.due("rounds(" + step + ", 0)", x.rounds(step, 0), least);
        b.due("rounds(" + step + ", 1)", x.rounds(step, 1), greatest);
    }

    private static void roundsOfNone() {
        roundsDue(walked("while a>7{}"), 0, 0, 0);
        roundsDue(walked("while 1/0=1{}"), 0, 0, 0);
        roundsDue(walked("end;while a=a{}"), 1, 0, 0);
        roundsDue(walked("proc p{while a=a{}}"), 0, 0, 0);
        roundsDue(walked("if a=1{while b<3{b=b+1;}}"), 1, 0, 3);
        roundsDue(walked("while a>6{a=0;}"), 0, 0, 1);
        b.close("Terms 3: ROUNDS: none");
    }

    private static void roundsInOneRun() {
        AllWays x = walked("while c<2{c=c+1;b=0;while b<3{b=b+1;}}");
        roundsDue(x, 0, 2, 2);
        roundsDue(x, 3, 6, 6);
        x = walked("proc p{while b<a{b=b+1;}b=0;}call p;call p;");
        roundsDue(x, 0, 0, 14);
        x = walked("while b<a{b=b+1;}");
        roundsDue(x, 0, 0, 7);
        x = walked("while b<a+1{b=b+1;}let a<7;");
        roundsDue(x, 0, 1, 7);
        b.close("Terms 3: ROUNDS: how often its COND is yes in one RUN");
    }

    private static void roundsToTheFuel() {
        AllWays x = Bench.with("while 1=1{}");
        for (int fuel = 1; fuel <= 40; fuel += 13) {
            x.walk(0, fuel);
            roundsDue(x, 0, fuel, fuel);
        }
        Bench.program(x, 0, "if 1=1{}while 1=1{}");
        x.walk(0, 1);
        roundsDue(x, 1, 0, 0);
        x.walk(0, 2);
        roundsDue(x, 1, 1, 1);
        b.close("Terms 3: ROUNDS: a DECISION without FUEL is no yes");
    }

    private static void roundsLeaveOutEnd4() {
        roundsDue(walked("while b<a{b=b+1;}let a>1;let a<5;"), 0, 2, 4);
        roundsDue(walked("while b<a{b=b+1;}must a>1;must a<5;"), 0, 0, 7);
        roundsDue(walked("while b<a{b=b+1;}b=1/(a-7)+1/a;"), 0, 0, 7);
        roundsDue(walked("while b<a{b=b+1;}if a=0 or a=7{while 1=1{}}"), 0, 0, 7);
        b.close("Terms 3: ROUNDS: of RUNS that do not end by 4");
    }

    private static void roundsWhereAllEndBy4() {
        AllWays x = walked("while b<a{b=b+1;}let 0=1;");
        roundsDue(x, 0, -1, -1);
        x = walked("while b<a{b=b+1;}let a=3;");
        roundsDue(x, 0, 3, 3);
        x = walked("let a>7;while b<a{b=b+1;}");
        roundsDue(x, 1, -1, -1);
        b.close("Terms 3: ROUNDS: no RUN does not end by 4");
    }

    // ---- HANGS ON ----------------------------------------------------------------------------------------------

    private static void hangsByEnds() {
        for (int one = 0; one < 6; one++) {
            for (int other = 0; other < 6; other++) {
                AllWays x = Bench.with("if a=9{" + ENDS[one] + "}else{" + ENDS[other] + "}", 4, 1, 0);
                b.due("ends " + one + " and " + other, x.hangs(0, 0, 5), one == other ? -1 : 0);
            }
        }
        b.close("Terms 3: HANGS ON: end unlike (0 to 5)");
    }

    private static void hangsByH() {
        for (int end = 0; end < 6; end++) {
            AllWays x = Bench.with("h=a;" + ENDS[end], 4, 1, 0);
            b.due("unlike h behind end " + end, x.hangs(0, 0, 5), end == 0 ? 0 : -1);
            x = Bench.with("g=a;cell[7]=a;" + ENDS[end], 4, 1, 0);
            b.due("like h behind end " + end, x.hangs(0, 0, 5), -1);
        }
        b.due("behind the last STEP and at 'end'", Bench.with("if a=3{end;}").hangs(0, 0, 5), -1);
        b.due("the last number alone", Bench.with("h=a/7;").hangs(0, 0, 5), 0);
        b.close("Terms 3: HANGS ON: or both by 0 with unlike h");
    }

    private static void hangsInThatLetterAlone() {
        AllWays x = Bench.with("h=b;", 2, 3, 0);
        b.due("a", x.hangs(0, 0, 1), -1);
        b.due("b", x.hangs(0, 1, 1), 0);
        b.due("c", x.hangs(0, 2, 1), -1);
        Bench.program(x, 0, "h=c;");
        b.due("b", x.hangs(0, 1, 1), -1);
        b.due("c", x.hangs(0, 2, 1), 0);
        x = Bench.with("ask h;", 2, 1, 1);
        b.due("an answer is no letter", x.hangs(0, 0, 1), -1);
        b.due("an answer is no letter", x.hangs(0, 1, 1), -2);
        b.close("Terms 3: HANGS ON: two ROWS that are unlike in that letter alone");
    }

    private static void hangsTheLeast() {
        AllWays x = Bench.with("if b=5{h=a;}", 3, 2, 0);
        b.due("a", x.hangs(0, 0, 1), 40);
        b.due("b", x.hangs(0, 1, 1), 1);
        Bench.program(x, 0, "if a=7{if b=7{h=1;}}");
        b.due("a", x.hangs(0, 0, 2), 56);
        b.due("b", x.hangs(0, 1, 2), 7);
        x = Bench.with("ask c;if c=3{if b=3{if a=3{must 0=1;}}}", 2, 2, 1);
        b.due("a", x.hangs(0, 0, 3), 12 + 48);
        b.due("b", x.hangs(0, 1, 3), 3 + 48);
        for (int number = 0; number < 8; number++) {
            x = Bench.with("if a=" + number + "{h=1;}");
            b.due("one number alone", x.hangs(0, 0, 1), 0);
            x = Bench.with("if b=3 and a=" + number + "{h=1;}", 3, 2, 0);
            b.due("one number alone", x.hangs(0, 0, 1), 24);
        }
        x = Bench.with("if a=15{if b=15{if c=15{h=1;}}}", 4, 3, 0);
        b.due("a", x.hangs(0, 0, 3), 4080);
        b.due("c", x.hangs(0, 2, 3), 255);
        b.close("Terms 3: HANGS ON: the least of all ROWS that have such a one");
    }

    // ---- MENDED ------------------------------------------------------------------------------------------------

    private static void mendDue(String text, int which, int what) {
        AllWays x = Bench.with(text, 4, 1, 0);
        mendDue(x, text, which, what);
    }

    private static void mendDue(AllWays x, String text, int which, int what) {
        b.due("mend of " + text, x.mend(0, 5), which);
        b.due("mended of " + text, x.mended(), what);
    }

    private static void mendedNoNeed() {
        mendDue("h=5;", -1, -1);
        mendDue("", -1, -1);
        mendDue("h=a;", -1, -1);
        mendDue("let 0=1;", -1, -1);
        mendDue("while 1=1{}", -1, -1);
        mendDue("proc p{must 0=1;}", -1, -1);
        mendDue("end;must 0=1;", -1, -1);
        b.close("Terms 3: MENDED: one that needs no mending: none");
    }

    private static void mendedEachHarm() {
        mendDue("must 0=1;", 0, 1);
        mendDue("h=7/0;", 1, 1);
        mendDue("h=cell[9];", 0, 0);
        mendDue("cell[9]=1;", 0, 0);
        mendDue("h=cell[15-7];", 0, 7);
        mendDue("if a=9{must 0=1;}", 1, 1);
        b.close("Terms 3: MENDED: no ROW ends by 1, 2, 3");
    }

    private static void mendedInto4And5() {
        mendDue("let 1=1;must a#a;", 0, 0);
        mendDue("while 1=0{}must a#a;", 0, 0);
        mendDue("while 1=0{}must 0=1;", 0, 0);
        b.close("Terms 3: MENDED: ends 4 and 5 will do");
    }

    private static void mendedFirstTwenty() {
        mendDue(Bench.times("b=1;", 18) + "must 0=1;", 18, 1);
        mendDue(Bench.times("b=1;", 19) + "must 0=1;", 19, 1);
        mendDue(Bench.times("b=1;", 20) + "must 0=1;", -1, -1);
        mendDue(Bench.times("b=1;", 19) + "must a#a or 5=4;", 19, 4);
        mendDue(Bench.times("b=1;", 18) + "must a#a or 5=4;must a=a or 0=0;", 18, 4);
        mendDue(Bench.times("b=1;", 18) + "must 15<c or c=1;must a=a;", 19, 0);
        mendDue(Bench.times("b=1;", 19) + "must 15<c or c=1;", -1, -1);
        b.close("Terms 3: MENDED: one of the first 20 NUMBERS");
    }

    private static void mendedWhichNumbers() {
        mendDue("cell[0]=1;if 2=3{}must 4<3;", 4, 0);
        mendDue("proc p{must 0=1;}call p;", 0, 1);
        mendDue("proc p{b=5;}must 0=1;", 1, 1);
        mendDue("b=cell[1+(2)]*3;must 0=1;", 3, 1);
        mendDue("if 1=1 and 2=2 or 3=3{}else{b=4;}must c=5;", 7, 0);
        b.close("Terms 3: MENDED: the NUMBERS of a text, as they come in it, wherever they stand");
    }

    private static void mendedFirstAndLeast() {
        // Both NUMBERS would do, and of the first one more than one.
        mendDue("must 5<5;", 0, 0);
        mendDue("must 5>5;", 0, 6);
        mendDue("must a<5 or a>9;", 0, 10);
        mendDue("must a#a and 3=3 or c<0;", 2, 1);
        mendDue("must a<5 or a<9;", -1, -1);
        b.close("Terms 3: MENDED: the first such NUMBER in the text, the least one in its place");
    }

    private static void mendedFromNoneToAll() {
        for (int bits = 2; bits <= 6; bits++) {
            int top = (1 << bits) - 1;
            String text = "must 1=c;";
            mendDue(Bench.with(text, bits, 1, 0), text, 0, 0);
            text = "must c-1=2;";
            mendDue(Bench.with(text, bits, 1, 0), text, 0, top - 1);
            text = "must c=2+1;";
            mendDue(Bench.with(text, bits, 1, 0), text, 0, top);
        }
        b.close("Terms 3: MENDED: another one, 0 to 2^B less 1");
    }

    private static void mendedByNone() {
        mendDue("must 0=1;must a#a;", -1, -1);
        mendDue("must a#a;", -1, -1);
        mendDue("h=b/c;", -1, -1);
        mendDue("must a<8 and 3=3;", -1, -1);
        AllWays x = Bench.with("must 0=1;", 4, 1, 0);
        x.mend(0, 5);
        b.due("the PROGRAM stays", x.run(0, 0, 1), 1);
        b.due("it can be mended again", x.mend(0, 5), 0);
        b.close("Terms 3: MENDED: none does");
    }

    private static void mendedForAllRows() {
        AllWays x = Bench.with("ask b;must b<3;", 2, 1, 1);
        mendDue(x, "with answers, none", -1, -1);
        Bench.program(x, 0, "ask b;must b<3 or b=2;");
        mendDue(x, "with answers", 1, 3);
        x = Bench.with("must a>6 or a<5;");
        mendDue(x, "for some letters", 0, 0);
        Bench.program(x, 0, "must a<7 or a=3;");
        mendDue(x, "for the last letters", 1, 7);
        Bench.program(x, 0, "must a>0 or a=3;");
        mendDue(x, "for the first letters", 1, 0);
        Bench.program(x, 0, "must a<7;");
        mendDue(x, "not for the last letters", -1, 0);
        b.close("Terms 3: MENDED: for all ROWS");
    }

    private static void mendedSizes() {
        AllWays x = Bench.with("must 0=1;");
        Bench.program(x, 1, "h=1;");
        for (int[] s : SMALL) {
            x.sizes(s[0], s[1], s[2]);
            b.due("below 8", x.mend(0, 1), 0);
            b.due("below 8", x.mend(1, 1), -1);
        }
        for (int[] s : EIGHT) {
            x.sizes(s[0], s[1], s[2]);
            b.due("8", x.mend(0, 1), 0);
            b.due("8", x.mend(1, 1), -1);
        }
        for (int[] s : ABOVE) {
            b.due("SIZES are", x.sizes(s[0], s[1], s[2]), true);
            b.due("above 8", x.mend(0, 1), -2);
            b.due("above 8, without need", x.mend(1, 1), -2);
        }
        b.due("the latest that was told stays", x.mended(), 1);
        b.close("Terms 3: MENDED: B times L and O together 8 at most");
    }

    // ---- ALIKE, SAFE, RULE -------------------------------------------------------------------------------------

    private static void alikeByEnds() {
        AllWays x = new AllWays();
        x.sizes(4, 1, 0);
        for (int one = 0; one < 6; one++) {
            Bench.program(x, 0, ENDS[one]);
            for (int other = 0; other < 6; other++) {
                Bench.program(x, 1, "if a=9{" + ENDS[other] + "}else{" + ENDS[one] + "}");
                b.due("ends " + one + " and " + other, x.alike(0, 1, 5), one == other ? -1 : 9);
                b.due("ends " + other + " and " + one, x.alike(1, 0, 5), one == other ? -1 : 9);
            }
        }
        b.close("Terms 3: ALIKE: each ROW ends alike by both (0 to 5)");
    }

    private static void alikeByH() {
        AllWays x = new AllWays();
        x.sizes(4, 1, 0);
        for (int end = 0; end < 6; end++) {
            Bench.program(x, 0, "h=1;" + ENDS[end]);
            Bench.program(x, 1, "h=2;" + ENDS[end]);
            Bench.program(x, 2, "g=2;h=1;cell[0]=1;" + ENDS[end]);
            b.due("unlike h, end " + end, x.alike(0, 1, 5), end == 0 ? 0 : -1);
            b.due("like h, end " + end, x.alike(0, 2, 5), -1);
        }
        Bench.program(x, 3, "h=1;");
        Bench.program(x, 0, "h=1;end;h=2;");
        b.due("at 'end' and behind the last STEP", x.alike(0, 3, 5), -1);
        b.close("Terms 3: ALIKE: by 0 with the same h");
    }

    private static void alikeLeastRow() {
        AllWays x = Bench.with("h=a;");
        Bench.program(x, 1, "h=a;if a>3{h=0;}");
        b.due("4 to 7 do not", x.alike(0, 1, 1), 4);
        Bench.program(x, 1, "h=a;if a=7{h=0;}");
        b.due("the last one does not", x.alike(0, 1, 1), 7);
        Bench.program(x, 1, "h=a;if a=0{h=1;}");
        b.due("the first one does not", x.alike(0, 1, 1), 0);
        b.due("a PROGRAM and itself", x.alike(1, 1, 1), -1);
        x.sizes(6, 1, 1);
        Bench.program(x, 0, "ask b;");
        Bench.program(x, 1, "ask b;if a=63{if b=63{h=1;}}");
        b.due("the last of all ROWS", x.alike(0, 1, 2), 4095);
        b.due("with too little FUEL", x.alike(0, 1, 1), 63);
        b.close("Terms 3: ALIKE: the least ROW that does not");
    }

    private static void safeWithAllAnswers() {
        AllWays x = Bench.with("ask b;must b#7;", 3, 1, 1);
        b.due("one answer of 8", x.safe(0, 1), 0);
        b.due("one answer of 8", x.unsafe(), 0);
        Bench.program(x, 0, "ask b;must b#0 or a>2;");
        b.due("one answer of 8", x.safe(0, 1), 5);
        Bench.program(x, 0, "ask b;ask c;must c=0;");
        b.due("behind the last answer", x.safe(0, 1), 8);
        x.sizes(3, 1, 2);
        b.due("the last answer", x.safe(0, 1), 0);
        Bench.program(x, 0, "ask b;ask c;must b+c#6 or a=1 or b#7;");
        b.due("one of 64", x.safe(0, 1), 1);
        b.close("Terms 3: SAFE: with all answers");
    }

    private static void safeNoneAndAll() {
        AllWays x = Bench.with("must 0=1;");
        b.due("none", x.safe(0, 1), 0);
        b.due("none", x.unsafe(), 0);
        b.due("all", x.safe(1, 1), 8);
        b.due("all", x.unsafe(), -1);
        x.sizes(4, 3, 0);
        b.due("none", x.safe(0, 1), 0);
        b.due("all of 4096", x.safe(1, 1), 4096);
        Bench.program(x, 2, "must a+b+c#13 or a#15 or b#15;");
        b.due("all but the last", x.safe(2, 1), 4095);
        b.due("the last", x.unsafe(), 4095);
        x.sizes(4, 1, 2);
        b.due("all of 16", x.safe(1, 1), 16);
        b.close("Terms 3: SAFE: none, all but one, all of 2^(B times L)");
    }

    private static void safeEnds() {
        for (int end = 0; end < 6; end++) {
            AllWays x = Bench.with("if a=9{" + ENDS[end] + "}", 4, 1, 0);
            boolean harm = end >= 1 && end <= 3;
            b.due("end " + end, x.safe(0, 5), harm ? 15 : 16);
            b.due("end " + end, x.unsafe(), harm ? 9 : -1);
        }
        b.close("Terms 3: SAFE: does not end by 1, 2, 3");
    }

    private static void ruleForEachAnswer() {
        AllWays x = Bench.with("ask b;ask c;must b+c=6;");
        b.due("of no answers", x.rule(0, 1), 3);
        x.sizes(3, 1, 1);
        b.due("behind the O-th ask, too", x.rule(0, 1), 3);
        x.sizes(3, 1, 2);
        b.due("of two answers", x.rule(0, 1), 3);
        Bench.program(x, 0, "ask b;ask c;ask d;must b=5;must c=5;must d=5;");
        b.due("the third, too", x.rule(0, 1), 5);
        Bench.program(x, 0, "while c<4{ask b;must b>5;c=c+1;}");
        b.due("each time", x.rule(0, 9), 6);
        b.close("Terms 3: a RULE is each answer, behind the O-th ask, too; those of the ROW count nothing");
    }

    private static void ruleLeastAndNone() {
        for (int bits = 2; bits <= 6; bits++) {
            int top = (1 << bits) - 1;
            AllWays x = Bench.with("ask b;must b=0-1;", bits, 1, 0);
            b.due("the greatest alone", x.rule(0, 1), top);
            Bench.program(x, 0, "ask b;must b=0;");
            b.due("the least alone", x.rule(0, 1), 0);
            Bench.program(x, 0, "ask b;must b>1;");
            b.due("the least of some", x.rule(0, 1), 2);
            Bench.program(x, 0, "ask b;must b=0;ask b;must b=1;");
            b.due("none", x.rule(0, 1), -1);
            b.due("nothing is asked", x.rule(1, 1), 0);
            Bench.program(x, 0, "must 0=1;ask b;");
            b.due("nothing is asked ahead of harm", x.rule(0, 1), -1);
        }
        b.close("Terms 3: a RULE: the least one, of B bits, or none");
    }

    private static void ruleForAllLetters() {
        AllWays x = Bench.with("ask b;must b>a or a=7;");
        b.due("7 letters need it", x.rule(0, 1), 7);
        Bench.program(x, 0, "ask b;must b=3 or a#7;");
        b.due("the last letters", x.rule(0, 1), 3);
        Bench.program(x, 0, "ask b;must b=3 or a#0;");
        b.due("the first letters", x.rule(0, 1), 3);
        Bench.program(x, 0, "ask b;must b>a;");
        b.due("none above 7", x.rule(0, 1), -1);
        x = Bench.with("ask d;must d=9 or a#15 or b#15 or c#15;", 4, 3, 0);
        b.due("the last of all letters", x.rule(0, 1), 9);
        b.close("Terms 3: a RULE: no letters end by 1, 2, 3 with it");
    }

    private static void ruleEnds() {
        for (int end = 0; end < 6; end++) {
            AllWays x = Bench.with("ask c;if c<3{" + ENDS[end] + "}", 4, 1, 1);
            b.due("end " + end, x.rule(0, 5), end >= 1 && end <= 3 ? 3 : 0);
        }
        b.close("Terms 3: a RULE: ends 4 and 5 will do");
    }
}
