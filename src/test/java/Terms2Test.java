/** Terms 2: each sentence about SIZES, RUNS and WAYS that names a boundary case, a test of its own. */
public final class Terms2Test {
    private static final Bench b = new Bench();

    public static void main(String[] args) {
        sizesAtFirst();
        sizesThatAre();
        sizesFarOff();
        sumsWrap();
        namesAndCellsWrap();
        condsWrap();
        numbersOfATextWrap();
        numbersWrapBySizesOfTheRun();
        zeroAtFirst();
        zeroAtFirstAgain();
        lettersOfARow();
        answersOfARow();
        firstStepInNoProc();
        callGoesOn();
        mustHoldsOrNot();
        letHoldsOrNot();
        ifHoldsOrNot();
        whileHoldsOrNot();
        answersBehindTheLast();
        endAndBehindTheLastStep();
        divisionIsCut();
        divisionBy0();
        cellsAbove7Read();
        cellsAbove7Laid();
        cellsOfFewBits();
        metFirst();
        eachPartOfACond();
        layingInACell();
        harmLaysNothing();
        harmLeavesNothing();
        endsInProcsLeaveNothing();
        fuelOneToForty();
        fuelForNoSuch();
        decisionsOfAllKinds();
        noDecisions();
        fuelEndsAheadOfWhatItDoes();
        fuelEndsAtItsStep();
        thousandSteps();
        step1001();
        step1001OfEachKind();
        step1001IsBegun();
        waysOfUnlikeDecisions();
        waysOfUnlikeEnds();
        waysAlike();
        orderOfEnds();
        orderEndAheadOfGoingOn();
        orderYesAheadOfNo();
        allRowsAreWalked();
        begunEachTimeRound();
        emptyTextRuns();
        b.finish();
    }

    private static void sizesAtFirst() {
        AllWays x = new AllWays();
        b.due("B", x.count(0), 3);
        b.due("L", x.count(1), 1);
        b.due("O", x.count(2), 0);
        b.due("the last ROW", x.run(0, 7, 1), 0);
        b.due("no ROW", x.run(0, 8, 1), -1);
        b.close("Terms 2: SIZES at first: 3, 1, 0");
    }

    private static void sizesThatAre() {
        for (int bits = -1; bits <= 8; bits++) {
            AllWays x = new AllWays();
            int[] now = {3, 1, 0};
            for (int letters = -1; letters <= 5; letters++) {
                for (int answers = -1; answers <= 4; answers++) {
                    boolean are = bits >= 2 && bits <= 6 && letters >= 1 && letters <= 3 && answers >= 0
                            && answers <= 2 && bits * (letters + answers) <= 12;
                    b.due("sizes(" + bits + ", " + letters + ", " + answers + ")", x.sizes(bits, letters, answers),
                            are);
                    now = are ? new int[] {bits, letters, answers} : now;
                    for (int what = 0; what < 3; what++) {
                        b.due("count(" + what + ") then", x.count(what), now[what]);
                    }
                }
            }
        }
        b.close("Terms 2: SIZES that are, and that are not");
    }

    private static void sizesFarOff() {
        AllWays x = new AllWays();
        int[] far = {Integer.MIN_VALUE, -1000, 1 << 16, 1 << 30, Integer.MAX_VALUE};
        for (int n : far) {
            b.due("B of " + n, x.sizes(n, 1, 0), false);
            b.due("L of " + n, x.sizes(3, n, 0), false);
            b.due("O of " + n, x.sizes(3, 1, n), false);
            b.due("all of " + n, x.sizes(n, n, n), false);
            // What wraps in int must not come out small enough.
            b.due("L and O that cancel out", x.sizes(3, n, 1 - n), false);
        }
        b.due("the sizes stay", x.count(0) * 100 + x.count(1) * 10 + x.count(2), 310);
        b.close("Terms 2: SIZES far off");
    }

    private static void sumsWrap() {
        for (int bits = 2; bits <= 6; bits++) {
            int top = (1 << bits) - 1;
            b.resultDue("h=" + top + ";", bits, top);
            b.resultDue("h=" + top + "+1;", bits, 0);
            b.resultDue("h=" + top + "+2;", bits, 1);
            b.resultDue("h=0-1;", bits, top);
            b.resultDue("h=1-2-" + top + ";", bits, 0);
            b.resultDue("h=" + top + "*" + top + ";", bits, 1);
            b.resultDue("h=" + top + "*2;", bits, top - 1);
            b.resultDue("h=" + top + "*2/2;", bits, (top - 1) / 2);
            b.resultDue("h=(" + top + "+1)*3;", bits, 0);
            b.resultDue("h=(0-1)/2;", bits, top / 2);
            b.resultDue("h=" + top + "+1-1;", bits, top);
        }
        b.close("Terms 2: all numbers wrap: 2^B is 0, -1 is 2^B less 1");
    }

    private static void namesAndCellsWrap() {
        for (int bits = 2; bits <= 6; bits++) {
            int top = (1 << bits) - 1;
            b.resultDue("h=0-1;h=h+1;", bits, 0);
            b.resultDue("b=" + top + ";c=b+1;h=c-1;", bits, top);
            b.resultDue("cell[0]=0-1;h=cell[0];", bits, top);
            b.resultDue("cell[0]=0-1;h=cell[0]+1;", bits, 0);
            b.resultDue("cell[1]=3;h=cell[" + top + "+2];", bits, 3);
            b.resultDue("cell[" + top + "+3]=3;h=cell[2];", bits, 3);
        }
        b.close("Terms 2: NAMES, CELLS and a CELL's place wrap, too");
    }

    private static void condsWrap() {
        for (int bits = 2; bits <= 6; bits++) {
            int top = (1 << bits) - 1;
            b.resultDue("must 0-1>0;must 0-1=" + top + ";must " + top + "+1=0;must " + top + "+1<1;", bits, 0);
            b.resultDue("if " + top + ">0{h=1;}", bits, 1);
            b.resultDue("if " + top + "+1>0{h=1;}", bits, 0);
            b.resultDue("while " + top + "+h#0{h=h+1;}", bits, 1);
        }
        b.close("Terms 2: numbers wrap in a COND, too");
    }

    private static void numbersOfATextWrap() {
        for (int bits = 2; bits <= 6; bits++) {
            int numbers = 1 << bits;
            b.resultDue("h=" + (numbers - 1) + ";", bits, numbers - 1);
            b.resultDue("h=" + numbers + ";", bits, 0);
            b.resultDue("h=" + (numbers + 1) + ";", bits, 1);
            b.resultDue("h=255;", bits, numbers - 1);
            b.resultDue("h=254;", bits, numbers - 2);
            b.resultDue("h=128;", bits, 0);
            b.resultDue("h=3;if " + numbers + "=0{h=1;}", bits, 1);
            b.resultDue("cell[" + numbers + "]=2;h=cell[0];", bits, 2);
        }
        AllWays x = new AllWays();
        Bench.claim(x, "a=9");
        b.due("a CLAIM's 9 of 3 bits", x.holds(), 1);
        Bench.claim(x, "8>7");
        b.due("a CLAIM's 8 of 3 bits", x.holds(), -1);
        b.close("Terms 2: a NUMBER in a text by 2^B, the rest");
    }

    private static void numbersWrapBySizesOfTheRun() {
        AllWays x = Bench.with("h=200;");
        int[] due = {0, 0, 8, 8, 8};
        for (int bits = 2; bits <= 6; bits++) {
            x.sizes(bits, 1, 0);
            x.run(0, 0, 1);
            b.due("200 of " + bits + " bits", x.got(7), due[bits - 2]);
        }
        Bench.claim(x, "a=9");
        b.due("a CLAIM's 9 of 6 bits", x.holds(), 9);
        x.sizes(2, 1, 0);
        b.due("a CLAIM's 9 of 2 bits", x.holds(), 1);
        b.close("Terms 2: a NUMBER by 2^B of the SIZES that are now");
    }

    private static void gotDue(AllWays x, int... due) {
        for (int n = 0; n < due.length; n++) {
            b.due("got(" + n + ")", x.got(n), due[n]);
        }
        for (int n = due.length; n < 16; n++) {
            b.due("got(" + n + ")", x.got(n), 0);
        }
    }

    private static void zeroAtFirst() {
        AllWays x = new AllWays();
        x.sizes(4, 1, 0);
        x.run(0, 15, 1);
        gotDue(x, 15);
        x.sizes(4, 2, 0);
        x.run(0, 255, 1);
        gotDue(x, 15, 15);
        x.sizes(4, 3, 0);
        x.run(0, 4095, 1);
        gotDue(x, 15, 15, 15);
        x.sizes(4, 1, 2);
        x.run(0, 4095, 1);
        gotDue(x, 15);
        b.close("Terms 2: CELLS and NAMES are 0 at first, but as many as L");
    }

    private static void zeroAtFirstAgain() {
        AllWays x = Bench.with("ask a;ask b;ask c;ask d;ask e;ask f;ask g;ask h;cell[0]=a;cell[3]=b;cell[7]=c;", 3, 1,
                2);
        b.due("rule", x.rule(0, 1), 0);
        x.run(0, 511, 1);
        gotDue(x, 7, 7, 0, 0, 0, 0, 0, 0, 7, 0, 0, 7, 0, 0, 0, 0);
        Bench.program(x, 0, "a=1;b=2;c=3;d=4;e=5;f=6;g=7;h=7;cell[0]=1;cell[7]=7;");
        x.run(0, 5, 1);
        x.run(1, 5, 1);
        gotDue(x, 5);
        b.close("Terms 2: they are 0 at first whatever ran ahead");
    }

    private static void lettersOfARow() {
        AllWays x = new AllWays();
        x.sizes(2, 3, 0);
        for (int row = 0; row < 64; row++) {
            x.run(0, row, 1);
            gotDue(x, row % 4, row / 4 % 4, row / 16);
        }
        x = new AllWays();
        x.sizes(6, 2, 0);
        x.run(0, 63, 1);
        gotDue(x, 63);
        x.run(0, 64, 1);
        gotDue(x, 0, 1);
        x.run(0, 4095, 1);
        gotDue(x, 63, 63);
        b.close("Terms 2: a ROW is a, and 2^B times b, and so on");
    }

    private static void answersOfARow() {
        AllWays x = Bench.with("ask d;ask e;", 2, 1, 2);
        for (int row = 0; row < 64; row += 7) {
            x.run(0, row, 1);
            gotDue(x, row % 4, 0, 0, row / 4 % 4, row / 16);
        }
        x = Bench.with("ask d;ask e;", 2, 3, 2);
        x.run(0, 1 + 4 * 2 + 16 * 3 + 64 * 2 + 256, 1);
        gotDue(x, 1, 2, 3, 2, 1);
        x = Bench.with("ask d;ask e;", 4, 1, 2);
        x.run(0, 16 * 15, 1);
        gotDue(x, 0, 0, 0, 15);
        x.run(0, 256 * 15, 1);
        gotDue(x, 0, 0, 0, 0, 15);
        b.close("Terms 2: the answers are behind the letters, of B bits, too");
    }

    private static void firstStepInNoProc() {
        b.endDue("proc p{must 0=1;}", 0, -1);
        b.endDue("proc p{must 0=1;}end;", 0, 1);
        b.endDue("proc p{must 0=1;}proc q{call p;}proc r{end;}a=1;end;", 0, 4);
        AllWays x = Bench.walked("proc p{must 0=1;}", 1);
        b.wayDue(x, 0, 0, -1, 0, 8, 0, 0);
        b.due("BEGUN by none", x.may(0, 0, 0), -1);
        b.close("Terms 2: a RUN begins with the first STEP that is in no PROC, if there is one");
    }

    private static void callGoesOn() {
        b.resultDue("proc p{h=h+1;}call p;h=h*2;", 4, 2);
        b.resultDue("proc p{h=h+1;}call p;call p;call p;", 4, 3);
        b.resultDue("proc p{}call p;h=h+1;", 4, 1);
        b.resultDue("proc p{h=h+1;}proc q{call p;h=h*2;}proc r{call q;h=h+3;}proc s{call r;call q;}call s;h=h+1;", 5,
                13);
        b.resultDue("proc p{h=h+1;}while h<5{call p;}h=h*2;", 4, 10);
        b.resultDue("proc p{if h=0{h=4;}else{h=7;}}call p;call p;", 4, 7);
        b.close("Terms 2: 'call': the STEPS of that PROC, then it goes on");
    }

    private static void mustHoldsOrNot() {
        AllWays x = Bench.with("must a<4;");
        b.endDue(x, 3, 1, 0, -1);
        b.endDue(x, 4, 1, 1, 0);
        x = Bench.with("must a>4;h=1;");
        b.endDue(x, 4, 1, 1, 0);
        b.endDue(x, 5, 1, 0, -1);
        x = Bench.with("a=a;must a=4;h=1;");
        b.endDue(x, 3, 1, 1, 1);
        b.endDue(x, 4, 1, 0, -1);
        x = Bench.with("must a#4;");
        b.endDue(x, 4, 1, 1, 0);
        b.endDue(x, 5, 1, 0, -1);
        b.close("Terms 2: 'must': the RUN ends by 1, if COND does not hold");
    }

    private static void letHoldsOrNot() {
        AllWays x = Bench.with("let a<4;");
        b.endDue(x, 3, 1, 0, -1);
        b.endDue(x, 4, 1, 4, 0);
        x = Bench.with("h=1;let a>4;must 0=1;");
        b.endDue(x, 4, 1, 4, 1);
        b.endDue(x, 5, 1, 1, 2);
        b.close("Terms 2: 'let': the RUN ends by 4, if COND does not hold");
    }

    private static void ifHoldsOrNot() {
        AllWays x = Bench.with("if a<4{end;}else{end;}end;");
        b.endDue(x, 3, 1, 0, 1);
        b.endDue(x, 4, 1, 0, 2);
        x = Bench.with("if a<4{end;}end;");
        b.endDue(x, 3, 1, 0, 1);
        b.endDue(x, 4, 1, 0, 2);
        x = Bench.with("if a<4{}else{}end;");
        b.endDue(x, 3, 1, 0, 1);
        b.endDue(x, 4, 1, 0, 1);
        b.close("Terms 2: 'if' by COND, with 'else' and without");
    }

    private static void whileHoldsOrNot() {
        AllWays x = Bench.with("while a<4{a=a+1;}");
        x.run(0, 5, 40);
        b.due("not once round", x.got(0), 5);
        x.run(0, 4, 40);
        b.due("not once round", x.got(0), 4);
        x.run(0, 3, 40);
        b.due("once round", x.got(0), 4);
        x.run(0, 0, 40);
        b.due("four times round", x.got(0), 4);
        b.endDue(x, 0, 40, 0, -1);
        b.close("Terms 2: 'while' by COND: none, one, some rounds");
    }

    private static void answersBehindTheLast() {
        AllWays x = Bench.with("b=7;ask b;c=7;ask c;d=7;ask d;");
        x.run(0, 7, 1);
        gotDue(x, 7);
        x.sizes(3, 1, 1);
        x.run(0, 7 + 8 * 5, 1);
        gotDue(x, 7, 5);
        x.sizes(3, 1, 2);
        x.run(0, 7 + 8 * 5 + 64 * 6, 1);
        gotDue(x, 7, 5, 6);
        Bench.program(x, 0, "ask a;ask a;");
        x.run(0, 7 + 8 * 5 + 64 * 6, 1);
        gotDue(x, 6);
        Bench.program(x, 0, "ask a;ask a;ask a;");
        x.run(0, 7 + 8 * 5 + 64 * 6, 1);
        gotDue(x, 0);
        for (int answers = 0; answers < 3; answers++) {
            x.sizes(3, 1, answers);
            Bench.program(x, 0, Bench.times("ask h;", answers) + "ask h;");
            b.due("0 for all ROWS", x.alike(0, 1, 1), -1);
            b.due("0 for all ROWS", x.reach(0, 1, 1), -1);
            b.due("0 for all ROWS", x.hangs(0, 0, 1), -1);
            Bench.program(x, 0, Bench.times("ask h;", answers) + "ask h;if h=1{h=a;}else{h=0;}");
            b.due("0 for all ROWS", x.hangs(0, 0, 1), -1);
            Bench.program(x, 0, Bench.times("ask h;", answers) + "ask h;must h=0;");
            b.due("0 for all letters", x.safe(0, 1), 8);
            b.due("0 for all ROWS", x.walk(0, 1), 1);
        }
        b.close("Terms 2: 'ask': the next answer of the ROW, 0 behind the last one");
    }

    private static void endAndBehindTheLastStep() {
        b.endDue("end;", 0, 0);
        b.endDue("a=1;", 0, -1);
        b.endDue("a=1;end;", 0, 1);
        b.endDue("end;must 0=1;", 0, 0);
        b.endDue("proc p{end;}call p;must 0=1;", 0, 0);
        b.endDue("if 1=1{end;}must 0=1;", 0, 1);
        b.endDue("while 1=1{end;}must 0=1;", 0, 1);
        b.endDue("if 0=1{end;}", 0, -1);
        b.endDue("if 1=1{a=1;}else{end;}", 0, -1);
        b.endDue("proc p{a=1;}call p;", 0, -1);
        b.close("Terms 2: 'end': it ends by 0, as it does behind the last STEP");
    }

    private static void divisionIsCut() {
        b.resultDue("h=15/4;", 4, 3);
        b.resultDue("h=15/15;", 4, 1);
        b.resultDue("h=14/15;", 4, 0);
        b.resultDue("h=15/1;", 4, 15);
        b.resultDue("h=0/15;", 4, 0);
        b.resultDue("h=15/4*4;", 4, 12);
        b.resultDue("h=15/2/2/2;", 4, 1);
        b.resultDue("h=63/2;", 6, 31);
        b.close("Terms 2: / is cut");
    }

    private static void divisionBy0() {
        b.endDue("h=1/0;", 2, 0);
        b.endDue("h=0/0;", 2, 0);
        b.endDue("a=1;h=1/b;", 2, 1);
        b.endDue("h=1/8;", 2, 0);
        b.endDue("h=1/(7+1);", 2, 0);
        b.endDue("h=1/cell[3];", 2, 0);
        b.endDue("must 1/0=1;", 2, 0);
        b.endDue("let 1/0=1;", 2, 0);
        b.endDue("if 1/0=1{}", 2, 0);
        b.endDue("while 1/0=1{}", 2, 0);
        b.endDue("cell[1/0]=1;", 2, 0);
        b.endDue("cell[1]=1/0;", 2, 0);
        b.resultDue("h=1/8;", 4, 0);
        AllWays x = Bench.with("h=7/a;");
        b.endDue(x, 0, 1, 2, 0);
        b.endDue(x, 1, 1, 0, -1);
        b.close("Terms 2: / by 0: the RUN ends by 2");
    }

    private static void cellsAbove7Read() {
        for (int bits = 4; bits <= 6; bits++) {
            AllWays x = Bench.with("h=cell[a];", bits, 1, 0);
            for (int row = 0; row < 1 << bits; row++) {
                b.endDue(x, row, 1, row > 7 ? 3 : 0, row > 7 ? 0 : -1);
            }
        }
        AllWays x = Bench.with("must cell[a]=0;", 4, 1, 0);
        b.endDue(x, 7, 1, 0, -1);
        b.endDue(x, 8, 1, 3, 0);
        Bench.program(x, 0, "if cell[a]=0{}");
        b.endDue(x, 7, 1, 0, -1);
        b.endDue(x, 8, 1, 3, 0);
        b.close("Terms 2: a CELL above 7 that is read: the RUN ends by 3");
    }

    private static void cellsAbove7Laid() {
        for (int bits = 4; bits <= 6; bits++) {
            AllWays x = Bench.with("b=1;cell[a]=3;", bits, 1, 0);
            for (int row = 0; row < 1 << bits; row++) {
                b.endDue(x, row, 1, row > 7 ? 3 : 0, row > 7 ? 1 : -1);
                for (int cell = 0; cell < 8; cell++) {
                    b.due("CELL " + cell, x.got(8 + cell), row == cell ? 3 : 0);
                }
            }
        }
        b.close("Terms 2: a CELL above 7 that is laid: the RUN ends by 3");
    }

    private static void cellsOfFewBits() {
        AllWays x = Bench.with("cell[8]=3;cell[15]=5;h=cell[0]+cell[7];", 3, 1, 0);
        b.endDue(x, 0, 1, 0, -1);
        b.due("8 is 0, 15 is 7", x.got(7), 0);
        b.due("CELL 0", x.got(8), 3);
        b.due("CELL 7", x.got(15), 5);
        x.sizes(2, 1, 0);
        b.endDue(x, 0, 1, 0, -1);
        b.due("15 is 3", x.got(11), 1);
        x.sizes(4, 1, 0);
        b.endDue(x, 0, 1, 3, 0);
        b.close("Terms 2: of 2 and 3 bits there is no CELL above 7");
    }

    private static void harmDue(String text, int end) {
        AllWays x = Bench.with(text, 4, 1, 0);
        b.due("end of " + text, x.run(0, 0, 1), end);
    }

    private static void metFirst() {
        harmDue("h=1/0+cell[8];", 2);
        harmDue("h=cell[8]+1/0;", 3);
        harmDue("h=cell[8]/0;", 3);
        harmDue("h=0/cell[8];", 3);
        harmDue("h=1/0*cell[8];", 2);
        harmDue("h=1*cell[8]/0;", 3);
        harmDue("h=cell[1/0];", 2);
        harmDue("h=cell[cell[8]/0];", 3);
        harmDue("h=1-(2-1/0)+cell[8];", 2);
        harmDue("h=cell[9]-(2-1/0);", 3);
        harmDue("must cell[8]=1/0;", 3);
        harmDue("must 1/0=cell[8];", 2);
        harmDue("must 1=1 and 1/0=1 or cell[8]=1;", 2);
        harmDue("must cell[8]=1 or 1/0=1;", 3);
        b.close("Terms 2: what is met first, all from the left");
    }

    private static void eachPartOfACond() {
        harmDue("must 1=1 or 1/0=1;", 2);
        harmDue("must 0=1 and 1/0=1;", 2);
        harmDue("let 1=1 or cell[8]=1;", 3);
        harmDue("let 0=1 and cell[8]=1;", 3);
        harmDue("if 1=1 or 1=1 or 1/0=1{}", 2);
        harmDue("if 0=1 and 1=1 and cell[8]=1{}", 3);
        harmDue("while 0=1 and 1/0=1{}", 2);
        harmDue("while 1=1 or cell[8]=1{}", 3);
        harmDue("must 1=1 or 1=1 and 0=1 or 1/0=1;", 2);
        b.close("Terms 2: each part of a COND is worked out");
    }

    private static void layingInACell() {
        harmDue("cell[1/0]=cell[8];", 2);
        harmDue("cell[cell[8]]=1/0;", 3);
        harmDue("cell[8]=1/0;", 2);
        harmDue("cell[8]=cell[9];", 3);
        harmDue("cell[8]=1;", 3);
        harmDue("cell[7]=1/0;", 2);
        harmDue("cell[7]=1;", 0);
        b.resultDue("cell[1]=2;cell[cell[1]]=cell[1]+1;h=cell[2];", 4, 3);
        b.resultDue("cell[cell[0]]=5;h=cell[0];", 4, 5);
        b.close("Terms 2: in '=' to a CELL the place, then the SUM, then whether there is such a place");
    }

    private static void harmLaysNothing() {
        AllWays x = Bench.with("b=3;b=1/0;", 4, 1, 0);
        b.endDue(x, 0, 1, 2, 1);
        b.due("b", x.got(1), 3);
        Bench.program(x, 0, "cell[2]=3;cell[2]=cell[8];");
        b.endDue(x, 0, 1, 3, 1);
        b.due("CELL 2", x.got(10), 3);
        Bench.program(x, 0, "cell[0]=3;cell[8]=5;");
        b.endDue(x, 0, 1, 3, 1);
        b.due("CELL 0", x.got(8), 3);
        b.close("Terms 2: '=' that comes to harm lays nothing");
    }

    /* Many RUNS that break off in the midst of a SUM, then one that goes to its end. */
    private static void harmLeavesNothing() {
        AllWays x = Bench.with("h=1+(2+(3+(4+cell[0+(0+(0+6/a))])))*2;", 4, 1, 0);
        for (int i = 0; i < 60; i++) {
            b.due("/ by 0", x.run(0, 0, 1), 2);
        }
        b.due("no harm", x.run(0, 1, 1), 0);
        b.due("1+18 by 16", x.got(7), 3);
        Bench.program(x, 0, "if 1=1 and (2+(3+1/a))=0{}");
        for (int i = 0; i < 60; i++) {
            x.walk(0, 1);
        }
        Bench.program(x, 0, "h=((((((((((1+2)+3)+4)+5)*2)))))-9);");
        b.due("no harm", x.run(0, 1, 1), 0);
        b.due("30-9 by 16", x.got(7), 5);
        Bench.claim(x, "1+(2+(3+1/a))=7");
        for (int i = 0; i < 60; i++) {
            b.due("harm in a CLAIM", x.holds(), 1);
        }
        b.due("no harm", x.run(0, 1, 1), 0);
        b.due("30-9 by 16", x.got(7), 5);
        b.close("Terms 2: a RUN that comes to harm leaves nothing for the next one");
    }

    private static void endsInProcsLeaveNothing() {
        AllWays x = Bench.with("proc p{if a=0{end;}must a#1;h=h+1;}proc q{call p;h=h*2;}proc r{call q;h=h+3;}"
                + "proc s{call r;h=h*2;}call s;h=h+1;call p;");
        for (int i = 0; i < 30; i++) {
            b.endDue(x, 0, 2, 0, 1);
            b.endDue(x, 1, 2, 1, 2);
            b.endDue(x, 2, 1, 5, 0);
        }
        b.endDue(x, 2, 2, 0, -1);
        b.due("(1*2+3)*2+1+1 by 8", x.got(7), 4);
        b.close("Terms 2: a RUN that ends in a PROC leaves nothing for the next one");
    }

    private static void fuelOneToForty() {
        for (int fuel = 1; fuel <= 40; fuel++) {
            // F - 1 times yes and once no are F DECISIONS.
            AllWays x = Bench.with("while b<" + (fuel - 1) + "{b=b+1;}", 6, 1, 0);
            b.endDue(x, 0, fuel, 0, -1);
            x = Bench.with("while b<" + fuel + "{b=b+1;}", 6, 1, 0);
            b.endDue(x, 0, fuel, 5, 0);
            b.due("as many rounds as FUEL", x.got(1), fuel);
        }
        b.close("Terms 2: FUEL 1 to 40: the DECISION that would be the one behind the F-th ends the RUN by 5");
    }

    private static void fuelForNoSuch() {
        AllWays x = Bench.with("if a=1{}");
        int[] none = {0, 41, -1, 42, 1000, Integer.MIN_VALUE, Integer.MAX_VALUE};
        for (int fuel : none) {
            b.due("run", x.run(0, 0, fuel), -1);
            b.due("walk", x.walk(0, fuel), -1);
            b.due("safe", x.safe(0, fuel), -1);
            b.due("alike", x.alike(0, 1, fuel), -2);
            b.due("rule", x.rule(0, fuel), -2);
            b.due("hangs", x.hangs(0, 0, fuel), -2);
            b.due("reach", x.reach(0, 0, fuel), -2);
            b.due("mend", x.mend(0, fuel), -2);
        }
        for (int fuel = 1; fuel <= 40; fuel += 39) {
            b.due("run", x.run(0, 0, fuel), 0);
            b.due("walk", x.walk(0, fuel), 2);
            b.due("safe", x.safe(0, fuel), 8);
            b.due("alike", x.alike(0, 1, fuel), -1);
            b.due("rule", x.rule(0, fuel), 0);
            b.due("hangs", x.hangs(0, 0, fuel), -1);
            b.due("reach", x.reach(0, 0, fuel), 0);
            b.due("mend", x.mend(0, fuel), -1);
        }
        b.close("Terms 2: FUEL 1 to 40, not 0 and 41, in every call");
    }

    private static void decisionsOfAllKinds() {
        AllWays x = Bench.with("if 1=1{}if 0=1{}while 0=1{}if 1=1{}else{}");
        b.endDue(x, 0, 3, 5, 3);
        b.endDue(x, 0, 4, 0, -1);
        Bench.program(x, 0, "while b<1{b=b+1;while c<1{c=c+1;}}end;");
        // yes, yes, no, no.
        b.endDue(x, 0, 1, 5, 2);
        b.endDue(x, 0, 2, 5, 2);
        b.endDue(x, 0, 3, 5, 0);
        b.endDue(x, 0, 4, 0, 4);
        Bench.program(x, 0, "proc p{if 1=1{}}call p;call p;");
        b.endDue(x, 0, 1, 5, 0);
        b.endDue(x, 0, 2, 0, -1);
        b.close("Terms 2: 'if' and 'while' are DECISIONS, yes or no, each time");
    }

    private static void noDecisions() {
        AllWays x = Bench.with("must 1=1 and 1=1 or 0=1;let 1=1;a=1;ask b;cell[1]=1;must 1=1;let 1=1;if 1=1{}");
        b.endDue(x, 0, 1, 0, -1);
        x = Bench.with("if 1=1{}must 1=1;let 1=1;a=1;ask b;end;");
        b.endDue(x, 0, 1, 0, 5);
        x.walk(0, 1);
        b.wayDue(x, 0, 0, 5, 1, 8, 0, 6);
        b.close("Terms 2: 'must' and 'let' are no DECISIONS");
    }

    private static void fuelEndsAheadOfWhatItDoes() {
        AllWays x = Bench.with("if 1=1{}if 1/0=1{}");
        b.endDue(x, 0, 1, 5, 1);
        b.endDue(x, 0, 2, 2, 1);
        x = Bench.with("if 1=1{}while cell[8]=1{}", 4, 1, 0);
        b.endDue(x, 0, 1, 5, 1);
        b.endDue(x, 0, 2, 3, 1);
        x = Bench.walked("if a<4{}if a=1{b=1;}", 1);
        b.wayDue(x, 0, 5, 1, 1, 4, 0, 2);
        b.due("no second DECISION", x.went(0, 1), -1);
        b.close("Terms 2: without FUEL a RUN ends ahead of what the STEP does");
    }

    private static void fuelEndsAtItsStep() {
        AllWays x = Bench.with("h=1;if a=a{h=2;}h=3;if a=a{h=4;}h=5;");
        b.endDue(x, 0, 1, 5, 4);
        b.due("h", x.got(7), 3);
        x.walk(0, 1);
        b.wayDue(x, 0, 5, 4, 1, 8, 0, 5);
        b.mayDue(x, 4, 7, 1, 3, 3);
        b.due("not behind it", x.may(6, 7, 0), -1);
        b.due("not behind it", x.may(5, 7, 0), -1);
        b.due("least", x.least(5, 4), 0);
        b.due("not at another", x.least(5, 1), -1);
        b.close("Terms 2: without FUEL a RUN ends at its STEP, which is BEGUN");
    }

    /* A call of q takes 1 + 9 * 31 = 280 STEPS: three of them, five calls of p (31 each) and five more are 1000. */
    private static final String STEPS_995 = "proc p{" + Bench.times("b=1;", 30) + "}proc q{"
            + Bench.times("call p;", 9) + "}call q;call q;call q;" + Bench.times("call p;", 5);

    private static void thousandSteps() {
        AllWays x = Bench.with(STEPS_995 + "c=1;c=2;c=3;c=4;c=5;");
        b.endDue(x, 0, 1, 0, -1);
        b.due("c", x.got(2), 5);
        x.walk(0, 1);
        b.wayDue(x, 0, 0, -1, 0, 8, 0, 1000);
        x = Bench.with(STEPS_995 + "c=1;c=2;c=3;c=4;end;");
        b.endDue(x, 0, 1, 0, 51);
        x = Bench.with(STEPS_995 + "c=1;c=2;c=3;c=4;must 0=1;");
        b.endDue(x, 0, 1, 1, 51);
        x = Bench.with(STEPS_995 + "c=1;c=2;c=3;c=4;if 1=1{}");
        b.endDue(x, 0, 1, 0, -1);
        b.close("Terms 2: a RUN of 1000 STEPS goes on to its end");
    }

    private static void step1001() {
        AllWays x = Bench.with(STEPS_995 + "c=1;c=2;c=3;c=4;c=5;c=6;c=7;");
        b.endDue(x, 0, 40, 5, 52);
        b.due("c", x.got(2), 5);
        x = Bench.with("proc p{" + Bench.times("b=1;", 30) + "}proc q{" + Bench.times("call p;", 9)
                + "}call q;call q;call q;call q;");
        // 840, 1, five times 31 and 1 are 997: the 1001st is the fourth of p.
        b.endDue(x, 0, 40, 5, 3);
        b.close("Terms 2: the STEP that is the 1001st BEGUN ends the RUN by 5, at its STEP");
    }

    private static void step1001OfEachKind() {
        String[] steps = {"c=6;", "cell[0]=6;", "c=1/0;", "must 0=1;", "let 0=1;", "ask c;", "end;", "if 1=1{}",
            "while 1=1{}", "call p;"};
        for (String step : steps) {
            AllWays x = Bench.with(STEPS_995 + "c=1;c=2;c=3;c=4;c=5;" + step);
            b.endDue(x, 0, 40, 5, 52);
            b.due("c ahead of " + step, x.got(2), 5);
            b.due("CELL 0 ahead of " + step, x.got(8), 0);
        }
        b.close("Terms 2: the 1001st STEP ends the RUN ahead of what it does, of every kind");
    }

    private static void step1001IsBegun() {
        AllWays x = Bench.walked(STEPS_995 + "c=1;c=2;c=3;c=4;c=5;c=6;c=7;", 1);
        b.wayDue(x, 0, 5, 52, 0, 8, 0, 1001);
        b.mayDue(x, 52, 2, 1, 5, 5);
        b.due("not the one behind it", x.may(53, 2, 0), -1);
        b.coverDue(x, 0);
        b.due("laws", x.laws(52) > 0, true);
        x.walk(1, 1);
        b.due("one begun is no more then", x.may(52, 2, 0), -1);
        b.close("Terms 2: BEGUN it is, the 1001st, too");
    }

    private static void waysOfUnlikeDecisions() {
        AllWays x = Bench.walked("if a<4{}", 1);
        b.due("two WAYS of the same STEPS", x.walk(0, 1), 2);
        b.wayDue(x, 0, 0, -1, 1, 4, 0, 1);
        b.wayDue(x, 1, 0, -1, 1, 4, 4, 1);
        b.due("as many as rounds", Bench.with("while a>0{a=a-1;}").walk(0, 40), 8);
        b.due("one end for two ROWS", Bench.with("while a>1{a=a-1;}").walk(0, 40), 7);
        b.close("Terms 2: RUNS of unlike DECISIONS are unlike WAYS");
    }

    private static void waysOfUnlikeEnds() {
        b.due("0 and 1", Bench.with("must a<4;").walk(0, 1), 2);
        b.due("0 and 2", Bench.with("b=1/a;").walk(0, 1), 2);
        b.due("0 and 4", Bench.with("let a<4;").walk(0, 1), 2);
        b.due("0, 1 and 2", Bench.with("must 1/a=1;").walk(0, 1), 3);
        b.due("1 at one STEP and at the next", Bench.with("must a<4;must a#1;").walk(0, 1), 3);
        b.due("0, 1, 2 and 3", Bench.with("must 8/a+cell[a-4]#1;", 4, 1, 0).walk(0, 1), 4);
        b.close("Terms 2: RUNS of unlike ends are unlike WAYS");
    }

    private static void waysAlike() {
        b.due("unlike numbers", Bench.with("h=a;cell[a]=a;b=a*a;").walk(0, 1), 1);
        b.due("unlike parts of a COND", Bench.with("if a=1 or a=2{}").walk(0, 1), 2);
        b.due("all come to harm", Bench.with("must a#a;").walk(0, 1), 1);
        b.due("without FUEL", Bench.with("while a=a{}").walk(0, 1), 1);
        AllWays x = Bench.walked("if a=1 or a=6{}", 1);
        b.wayDue(x, 0, 0, -1, 1, 2, 1, 1);
        b.wayDue(x, 1, 0, -1, 1, 6, 0, 1);
        b.close("Terms 2: RUNS of the same STEPS, DECISIONS, end are one WAY");
    }

    private static void orderOfEnds() {
        AllWays x = Bench.with("must 8/a+cell[a-4]#1;", 4, 1, 0);
        x.walk(0, 1);
        int[] ends = {1, 2, 3, 0};
        for (int i = 0; i < 4; i++) {
            b.due("way(" + i + ", 0)", Bench.way(x, i, 0), ends[i]);
        }
        x = Bench.walked("let 4/a=2;", 1);
        // a is 2 alone goes on, 0 comes to harm, the others end by 4.
        b.wayDue(x, 0, 2, 0, 0, 1, 0, 1);
        b.wayDue(x, 1, 4, 0, 0, 6, 1, 1);
        b.wayDue(x, 2, 0, -1, 0, 1, 2, 1);
        b.close("Terms 2: the ORDER of WAYS that end at one place: by the lesser end");
    }

    private static void orderEndAheadOfGoingOn() {
        AllWays x = Bench.walked("let a>0;end;", 1);
        b.wayDue(x, 0, 4, 0, 0, 1, 0, 1);
        b.wayDue(x, 1, 0, 1, 0, 7, 1, 2);
        x = Bench.walked("let a>0;", 1);
        b.wayDue(x, 0, 4, 0, 0, 1, 0, 1);
        b.wayDue(x, 1, 0, -1, 0, 7, 1, 1);
        x = Bench.walked("if 4/a>2{end;}else{end;}", 1);
        b.wayDue(x, 0, 2, 0, 0, 1, 0, 1);
        b.wayDue(x, 1, 0, 1, 1, 1, 1, 2);
        b.wayDue(x, 2, 0, 2, 1, 6, 2, 2);
        b.close("Terms 2: the ORDER of WAYS: what ends there ahead of what goes on, wherever that ends");
    }

    private static void orderYesAheadOfNo() {
        AllWays x = Bench.walked("if a>3{must a>5;}if a=a{}", 1);
        b.wayDue(x, 0, 1, 1, 1, 2, 4, 2);
        b.wayDue(x, 1, 5, 2, 1, 2, 6, 3);
        b.wayDue(x, 2, 5, 2, 1, 4, 0, 2);
        x = Bench.walked("if a>3{if a=4{}}else{if a=1{}}", 2);
        int[] least = {4, 5, 1, 0};
        for (int i = 0; i < 4; i++) {
            b.due("way(" + i + ", 4)", Bench.way(x, i, 4), least[i]);
        }
        // 40 DECISIONS: the last one tells them apart.
        x = Bench.with("while b<38{b=b+1;}if a=5{}", 6, 1, 0);
        b.due("two", x.walk(0, 40), 2);
        b.due("yes", Bench.way(x, 0, 4), 5);
        b.due("no", Bench.way(x, 1, 4), 0);
        b.due("the 40th", x.went(0, 39), 1);
        b.due("the 40th", x.went(1, 39), 0);
        b.close("Terms 2: the ORDER of WAYS: yes ahead of no");
    }

    private static void allRowsAreWalked() {
        int[][] sizes = {{2, 1, 0}, {2, 1, 1}, {3, 2, 0}, {6, 1, 0}, {6, 2, 0}, {6, 1, 1}, {4, 3, 0}, {2, 3, 2}};
        for (int[] s : sizes) {
            AllWays x = Bench.with("ask h;if a>h{}if b>h{}", s[0], s[1], s[2]);
            int rows = 1 << (s[0] * (s[1] + s[2]));
            int ways = x.walk(0, 2);
            int sum = 0;
            for (int i = 0; i < ways; i++) {
                sum += Bench.way(x, i, 3);
            }
            b.due("all ROWS", sum, rows);
            b.due("the last ROW", x.along(rows - 1) >= 0, true);
            b.due("no ROW", x.along(rows), -1);
        }
        b.close("Terms 2: WALKED: all ROWS, of the least SIZES and of the greatest");
    }

    private static void begunEachTimeRound() {
        AllWays x = Bench.walked("while a>0{a=a-1;}", 40);
        for (int row = 0; row < 8; row++) {
            b.due("STEPS of ROW " + row, Bench.way(x, x.along(row), 5), 2 * row + 1);
        }
        b.mayDue(x, 0, 0, 8, 0, 7);
        x = Bench.walked("let a=3;while a>0{a=a-1;}", 40);
        b.mayDue(x, 1, 0, 4, 0, 3);
        b.mayDue(x, 2, 0, 3, 1, 3);
        b.close("Terms 2: 'while' is BEGUN again each time round");
    }

    private static void emptyTextRuns() {
        AllWays x = new AllWays();
        b.endDue(x, 0, 1, 0, -1);
        b.endDue(x, 7, 40, 0, -1);
        b.due("a", x.got(0), 7);
        b.due("walk", x.walk(0, 1), 1);
        b.wayDue(x, 0, 0, -1, 0, 8, 0, 0);
        b.due("no DECISION", x.went(0, 0), -1);
        b.due("no STEP", x.may(0, 0, 0), -1);
        b.coverDue(x);
        b.due("least", x.least(0, -1), 0);
        Bench.program(x, 0, "must 0=1;");
        b.due("empty again", Bench.program(x, 0, ""), 0);
        b.endDue(x, 0, 1, 0, -1);
        b.close("Terms 2: the empty text");
    }
}
