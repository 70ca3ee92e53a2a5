/** Terms 1: each sentence about texts, TOKENS and FAULTS that names a boundary case, a test of its own. */
public final class Terms1Test {
    private static final Bench b = new Bench();

    public static void main(String[] args) {
        programsZeroToThree();
        textsOf500Bytes();
        claimsOf500Bytes();
        theEmptyText();
        blanks();
        noBlanks();
        everyOtherByte();
        wordsOfOneToFive();
        numbersOfOneToThree();
        wordsGoOn();
        lettersOfNames();
        lettersOfProcs();
        procsAheadOfSteps();
        procsToldOnce();
        procsToldAhead();
        stepsNumberedAsTheyBegin();
        sixtySteps();
        sixtyStepsInBlocks();
        units150();
        whatIsAUnit();
        unitsOfAClaim();
        tenOpenRound();
        tenOpenSquare();
        tenOpenBlocks();
        tenOpenMixed();
        closedCountsNoMore();
        emptyBlocks();
        elseOfAnIf();
        asOftenAsTold();
        condsOfTests();
        relations();
        firstAlongTheText();
        leastOfOneToken();
        whatCannotCome();
        theEndsPlace();
        moreThan500();
        faultAheadOf500();
        readWhole();
        numbersAbove255();
        placesOfFault3();
        placesOfFault4();
        textsAreReadAnew();
        longTextsOneAfterTheOther();
        b.finish();
    }

    private static void programsZeroToThree() {
        AllWays x = new AllWays();
        for (int k = 0; k < 4; k++) {
            b.due("program(" + k + ")", Bench.program(x, k, "h=" + (k + 1) + ";"), 1);
        }
        for (int k = 0; k < 4; k++) {
            b.due("run(" + k + ")", x.run(k, 0, 1), 0);
            b.due("each its own text", x.got(7), k + 1);
        }
        int[] none = {-1, 4, 5, 1000, Integer.MIN_VALUE, Integer.MAX_VALUE};
        for (int k : none) {
            b.due("program(" + k + ")", Bench.program(x, k, "h=7;"), -1000);
        }
        b.close("Terms 1: PROGRAMS 0 to 3");
    }

    private static void textsOf500Bytes() {
        b.programDue(Bench.times(" ", 496) + "end;", 1, 0);
        b.faultDue(Bench.times(" ", 497) + "end;", 500, 1);
        b.programDue("end;" + Bench.times(" ", 496), 1, 0);
        b.faultDue("end;" + Bench.times(" ", 497), 500, 1);
        b.programDue(Bench.times(" ", 500), 0, 0);
        b.faultDue(Bench.times("\n", 501), 500, 1);
        b.faultDue(Bench.times(" ", 540), 500, 1);
        b.close("Terms 1: texts of at most 500 bytes");
    }

    private static void claimsOf500Bytes() {
        b.claimDue("a=1" + Bench.times(" ", 497), 1, 0);
        b.claimFaultDue("a=1" + Bench.times(" ", 498), 500, 1);
        b.claimDue(Bench.times(" ", 497) + "a=1", 1, 0);
        b.claimFaultDue(Bench.times(" ", 498) + "a=1", 500, 1);
        b.claimFaultDue("a=1" + Bench.times(" ", 537), 500, 1);
        b.close("Terms 1: texts of at most 500 bytes, a CLAIM's too");
    }

    private static void theEmptyText() {
        b.programDue("", 0, 0);
        b.programDue(" ", 0, 0);
        b.programDue("proc p{}", 0, 0);
        b.claimFaultDue("", 0, 1);
        b.claimFaultDue(" ", 1, 1);
        b.close("Terms 1: TEXT is the empty one, too; a CLAIM has a TEST");
    }

    private static void blanks() {
        String text = "proc@p@{@}@if@a@=@1@{@call@p@;@}@else@{@cell@[@2@]@=@(@b@+@3@)@;@}@";
        b.programDue(text.replace('@', ' '), 3, 0);
        b.programDue(text.replace('@', '\n'), 3, 0);
        b.programDue(text.replace("@", "\n  \n"), 3, 0);
        b.faultDue(text.replace('@', '\t'), 4, 1);
        b.faultDue(text.replace('@', '\r'), 4, 1);
        b.programDue("a=b- 1;", 1, 0);
        b.faultDue("a=1 2;", 4, 1);
        b.faultDue("wh ile a=1{}", 0, 1);
        b.close("Terms 1: blanks (32, 10) between TOKENS");
    }

    private static void noBlanks() {
        b.programDue("proc p{}if a=1{call p;}else{cell[2]=(b+3);}while b#2 and c<cell[1]or d>3{ask e;end;}", 6, 0);
        b.faultDue("procp{}", 0, 1);
        b.faultDue("ifa=1{}", 0, 1);
        b.faultDue("if a=1or b=1{}", 5, 1);
        b.faultDue("if a=b and b=1 orb=1{}", 15, 1);
        b.programDue("if a=b and b=(1)or c=1{}", 1, 0);
        b.close("Terms 1: or no blanks, where none are needed to part two WORDS");
    }

    /* Behind 'end;', each byte in turn, then 'end;' again. */
    private static void everyOtherByte() {
        for (int sign = 0; sign < 256; sign++) {
            boolean isBlank = sign == 32 || sign == 10;
            b.programDue("end;" + (char) sign + "end;", isBlank ? 2 : -5, isBlank ? 0 : 1);
        }
        for (int sign = 0; sign < 256; sign++) {
            boolean isUnit = sign >= 'a' && sign <= 'h' || sign >= '0' && sign <= '9' || sign == '(';
            boolean isBlank = sign == 32 || sign == 10;
            b.faultDue("h=" + (char) sign, isUnit || isBlank ? 3 : 2, 1);
        }
        String relations = "<=>#";
        for (int sign = 0; sign < 256; sign++) {
            boolean isFine = relations.indexOf(sign) >= 0;
            b.programDue("must a" + (char) sign + " 1;", isFine ? 1 : -1 - placeBehindA(sign),
                    isFine ? 0 : 1);
        }
        b.close("Terms 1: every byte that is no TOKEN, or begins none that can come there");
    }

    /* Of 'must a', a sign, ' 1;': where the FAULT is, if the sign is no relation. */
    private static int placeBehindA(int sign) {
        if (sign >= 'a' && sign <= 'z' || sign >= '0' && sign <= '9') {
            return 5;
        }
        if (sign == 32 || sign == 10) {
            return 8;
        }
        return "+-*/".indexOf(sign) >= 0 ? 9 : 6;
    }

    private static void wordsOfOneToFive() {
        b.programDue("a=1;", 1, 0);
        b.programDue("if a=1{}", 1, 0);
        b.programDue("end;", 1, 0);
        b.programDue("must a=1;", 1, 0);
        b.programDue("while a=1{}", 1, 0);
        b.faultDue("whiles a=1{}", 0, 1);
        b.faultDue("abcdef=1;", 0, 1);
        b.faultDue("end;" + Bench.times("a", 300), 4, 1);
        b.faultDue(";" + Bench.times("a", 539), 0, 1);
        b.faultDue("a=" + Bench.times("b", 538), 2, 1);
        b.faultDue("ends;", 0, 1);
        b.faultDue("en;", 0, 1);
        b.faultDue("whil a=1{}", 0, 1);
        b.close("Terms 1: WORDS of 1 to 5 letters");
    }

    private static void numbersOfOneToThree() {
        b.programDue("a=0;b=7;c=9;", 3, 0);
        b.programDue("a=00;b=10;c=99;", 3, 0);
        b.programDue("a=000;b=100;c=199;d=007;", 4, 0);
        b.faultDue("a=0000;", 2, 1);
        b.faultDue("a=0001;", 2, 1);
        b.faultDue("a=1000;", 2, 1);
        b.faultDue("a=" + Bench.times("0", 538), 2, 1);
        b.faultDue("a=b+99999999999;", 4, 1);
        b.resultDue("h=007;", 4, 7);
        b.resultDue("h=010;", 4, 10);
        b.resultDue("h=63-09;", 6, 54);
        b.close("Terms 1: NUMBERS of 1 to 3 digits");
    }

    private static void wordsGoOn() {
        b.faultDue("a1=1;", 0, 1);
        b.faultDue("b=1a;", 2, 1);
        b.faultDue("b=a1;", 2, 1);
        b.faultDue("if1=1{}", 0, 1);
        b.faultDue("enda;", 0, 1);
        b.faultDue("end0;", 0, 1);
        b.faultDue("1end;", 0, 1);
        b.faultDue("b=12z;", 2, 1);
        b.faultDue("ask a0;", 4, 1);
        b.faultDue("proc p0{}", 5, 1);
        b.faultDue("b=aA;", 3, 1);
        b.faultDue("b=1_;", 3, 1);
        b.close("Terms 1: a WORD, NUMBER goes on as long as small letters and digits do; else it is no TOKEN");
    }

    private static void lettersOfNames() {
        for (char letter = 'a'; letter <= 'z'; letter++) {
            boolean isName = letter <= 'h';
            b.programDue(letter + "=1;", isName ? 1 : -1, isName ? 0 : 1);
            b.programDue("a=" + letter + ";", isName ? 1 : -3, isName ? 0 : 1);
            b.programDue("ask " + letter + ";", isName ? 1 : -5, isName ? 0 : 1);
            b.claimDue(letter + "=1", isName ? 1 : -1, isName ? 0 : 1);
        }
        b.faultDue("aa=1;", 0, 1);
        b.faultDue("A=1;", 0, 1);
        b.faultDue("H=1;", 0, 1);
        b.close("Terms 1: NAME: a to h, one letter");
    }

    private static void lettersOfProcs() {
        for (char letter = 'a'; letter <= 'z'; letter++) {
            boolean isProc = letter >= 'p' && letter <= 's';
            b.programDue("proc " + letter + "{}", isProc ? 0 : -6, isProc ? 0 : 1);
            b.programDue("proc " + letter + "{}call " + letter + ";", isProc ? 1 : -6, isProc ? 0 : 1);
            b.faultDue("call " + letter + ";", 5, isProc ? 4 : 1);
        }
        b.faultDue("proc pq{}", 5, 1);
        b.faultDue("proc proc{}", 5, 1);
        b.faultDue("proc 1{}", 5, 1);
        b.close("Terms 1: PROC: p, q, r or s, one letter");
    }

    private static void procsAheadOfSteps() {
        b.programDue("proc p{}proc q{}proc r{}proc s{}", 0, 0);
        b.programDue("proc s{}proc q{}end;", 1, 0);
        b.faultDue("proc p{}end;proc q{}", 12, 1);
        b.faultDue("end;proc p{}", 4, 1);
        b.faultDue("proc p{proc q{}}", 7, 1);
        b.faultDue("if a=1{proc q{}}", 7, 1);
        b.close("Terms 1: TEXT: PROCS, then STEPS");
    }

    private static void procsToldOnce() {
        for (char letter = 'p'; letter <= 's'; letter++) {
            b.faultDue("proc " + letter + "{}proc " + letter + "{}", 13, 4);
        }
        b.programDue("proc p{}proc q{}proc r{}proc s{}end;", 1, 0);
        b.faultDue("proc p{}proc q{}proc r{}proc s{}proc p{}", 37, 4);
        b.faultDue("proc p{}proc q{}proc r{}proc s{}proc s{}", 37, 4);
        b.faultDue("proc p{end;}proc p{end;}", 17, 4);
        b.close("Terms 1: a PROC is told once");
    }

    private static void procsToldAhead() {
        b.programDue("proc p{}call p;", 1, 0);
        b.programDue("proc p{}proc q{call p;}call q;", 2, 0);
        b.faultDue("proc p{call p;}", 12, 4);
        b.faultDue("proc p{if a=1{call p;}}", 19, 4);
        b.faultDue("proc p{end;call p;}", 16, 4);
        b.faultDue("proc q{call p;}proc p{}", 12, 4);
        b.faultDue("proc p{}call q;", 13, 4);
        b.faultDue("call p;", 5, 4);
        b.programDue("proc s{}proc r{call s;}proc q{call r;call s;}proc p{call q;call r;call s;}call p;", 7, 0);
        b.close("Terms 1: a called PROC is told ahead, its BLOCK, too");
    }

    /* Each STEP that a RUN BEGINS is told by where the FUEL, or a 'must', ends it. */
    private static void stepsNumberedAsTheyBegin() {
        b.endDue("must 0=1;", 1, 0);
        b.endDue("proc p{a=1;a=2;}must 0=1;", 1, 2);
        b.endDue("proc p{must 0=1;}a=1;call p;", 1, 0);
        b.endDue("proc p{a=1;}proc q{call p;must 0=1;}call q;", 1, 2);
        b.endDue("if 0=1{a=1;if a=1{a=2;}}else{must 0=1;}", 1, 4);
        b.endDue("if 1=1{if 1=1{must 0=1;}}else{a=1;}", 1, 2);
        b.endDue("while 0=1{a=1;}must 0=1;", 1, 2);
        b.endDue(Bench.times("a=1;", 59) + "must 0=1;", 1, 59);
        b.close("Terms 1: STEPS are numbered from 0 on as they begin in the text, those of PROCS, too");
    }

    private static void sixtySteps() {
        b.programDue(Bench.times("end;", 59), 59, 0);
        b.programDue(Bench.times("end;", 60), 60, 0);
        b.faultDue(Bench.times("end;", 61), 240, 3);
        b.faultDue(Bench.times("end;", 100), 240, 3);
        b.programDue(Bench.times("a=1;", 60), 60, 0);
        b.faultDue(Bench.times("a=1;", 60) + "a=1;", 240, 3);
        b.close("Terms 1: 60 STEPS, not a 61st");
    }

    private static void sixtyStepsInBlocks() {
        b.programDue("proc p{" + Bench.times("end;", 60) + "}", 60, 0);
        b.faultDue("proc p{" + Bench.times("end;", 60) + "}end;", 248, 3);
        b.faultDue("proc p{" + Bench.times("end;", 61) + "}", 247, 3);
        b.programDue("proc p{end;}" + Bench.times("a=1;", 57) + "if a=1{a=1;}", 60, 0);
        b.faultDue("proc p{end;}" + Bench.times("a=1;", 57) + "if a=1{a=1;}else{a=1;}", 257, 3);
        b.faultDue(Bench.times("a=1;", 59) + "while a=1{a=1;}", 246, 3);
        b.faultDue("proc p{}" + Bench.times("a=1;", 60) + "call p;", 248, 3);
        b.close("Terms 1: 60 STEPS, those of PROCS and BLOCKS, too");
    }

    private static void units150() {
        b.programDue("a=b" + Bench.times("+b", 148) + ";", 1, 0);
        b.programDue("a=b" + Bench.times("+b", 149) + ";", 1, 0);
        b.faultDue("a=b" + Bench.times("+b", 150) + ";", 302, 3);
        b.programDue(Bench.times("a=b+1*2/3-4;", 30), 30, 0);
        b.faultDue(Bench.times("a=b+1*2/3-4;", 30) + "a=1;", 362, 3);
        b.faultDue(Bench.times("a=b+1*2/3-4;", 30) + "must a=1;", 365, 3);
        b.programDue(Bench.times("a=b+1*2/3-4;", 30) + "ask a;end;", 32, 0);
        b.close("Terms 1: 150 UNITS in a text, not a 151st");
    }

    private static void whatIsAUnit() {
        String ahead = "a=b" + Bench.times("+b", 145);
        b.programDue(ahead + "+1+c+(2);", 1, 0);
        b.programDue(ahead + "+1+c+2+3;", 1, 0);
        b.faultDue(ahead + "+1+c+(2+3);", 301, 3);
        b.faultDue(ahead + "+1+c+3+(2);", 301, 3);
        b.programDue(ahead + "+1+c+cell[2];", 1, 0);
        b.faultDue(ahead + "+1+c+2+cell[2];", 305, 3);
        b.faultDue(ahead + "+1+c+cell[2+3];", 305, 3);
        b.programDue(ahead + "+1+c;cell[2]=3;", 2, 0);
        b.faultDue(ahead + "+1+c;cell[2]=3+4;", 308, 3);
        b.close("Terms 1: UNITS: NUMBER, NAME, 'cell' [ SUM ], ( SUM ), each one itself; what '=' lays in is none");
    }

    private static void unitsOfAClaim() {
        b.claimDue("a=b" + Bench.times("+b", 148), 1, 0);
        b.claimFaultDue("a=b" + Bench.times("+b", 149), 300, 3);
        b.claimDue("a=b" + Bench.times("+b", 146) + " and c=d", 2, 0);
        b.claimFaultDue("a=b" + Bench.times("+b", 146) + " and c+1=d", 304, 3);
        b.close("Terms 1: 150 UNITS in a text, a CLAIM's too");
    }

    private static void tenOpenRound() {
        b.programDue("a=" + Bench.times("(", 10) + "1" + Bench.times(")", 10) + ";", 1, 0);
        b.faultDue("a=" + Bench.times("(", 11) + "1" + Bench.times(")", 11) + ";", 12, 3);
        b.claimDue(Bench.times("(", 10) + "1" + Bench.times(")", 10) + "=1", 1, 0);
        b.claimFaultDue(Bench.times("(", 11) + "1" + Bench.times(")", 11) + "=1", 10, 3);
        b.claimFaultDue("a=1 and b=" + Bench.times("(", 11), 20, 3);
        b.close("Terms 1: no more than 10 ( open at once");
    }

    private static void tenOpenSquare() {
        b.programDue("a=" + Bench.times("cell[", 10) + "1" + Bench.times("]", 10) + ";", 1, 0);
        b.faultDue("a=" + Bench.times("cell[", 11) + "1" + Bench.times("]", 11) + ";", 56, 3);
        b.programDue(Bench.times("cell[", 10) + "1" + Bench.times("]", 10) + "=1;", 1, 0);
        b.faultDue(Bench.times("cell[", 11) + "1" + Bench.times("]", 11) + "=1;", 54, 3);
        b.close("Terms 1: no more than 10 [ open at once");
    }

    private static void tenOpenBlocks() {
        b.programDue(Bench.times("if 1=1{", 10) + Bench.times("}", 10), 10, 0);
        b.faultDue(Bench.times("if 1=1{", 11) + Bench.times("}", 11), 76, 3);
        b.programDue(Bench.times("while 1=1{", 10) + "a=1;" + Bench.times("}", 10), 11, 0);
        b.faultDue(Bench.times("while 1=1{", 11) + Bench.times("}", 11), 109, 3);
        b.programDue("proc p{" + Bench.times("if 1=1{", 9) + Bench.times("}", 10), 9, 0);
        b.faultDue("proc p{" + Bench.times("if 1=1{", 10) + Bench.times("}", 11), 76, 3);
        b.programDue(Bench.times("if 1=1{}else{", 10) + Bench.times("}", 10), 10, 0);
        b.faultDue(Bench.times("if 1=1{}else{", 10) + "if 1=1{", 136, 3);
        b.close("Terms 1: no more than 10 { open at once");
    }

    private static void tenOpenMixed() {
        String blocks = Bench.times("if 1=1{", 4);
        b.programDue(blocks + "cell[((1))]=(((cell[((2))])));" + Bench.times("}", 4), 5, 0);
        b.programDue(blocks + "a=cell[cell[((((1))))]];" + Bench.times("}", 4), 5, 0);
        b.faultDue(blocks + "a=cell[cell[(((((1))))))]];", 44, 3);
        b.faultDue(blocks + "a=((((((cell[1]))))));", 40, 3);
        b.faultDue(blocks + "if ((((((1))))))=1{a=(((((((1)))))));", 28 + 19 + 2 + 5, 3);
        b.faultDue(Bench.times("if 1=1{", 10) + "must (1)=1;", 75, 3);
        b.faultDue(Bench.times("if 1=1{", 10) + "cell[1]=1;", 74, 3);
        b.close("Terms 1: no more than 10 ( [ { open at once, of all kinds together");
    }

    private static void closedCountsNoMore() {
        String ten = Bench.times("(", 10) + "1" + Bench.times(")", 10);
        b.programDue("a=" + ten + "+" + ten + ";b=" + ten + ";", 2, 0);
        b.programDue(Bench.times("if 1=1{}", 20), 20, 0);
        b.programDue("proc p{}proc q{}proc r{}proc s{}" + Bench.times("if 1=1{", 10) + Bench.times("}", 10)
                + "must " + ten + "=1;", 11, 0);
        b.programDue("a=" + Bench.times("cell[1]+", 12) + "cell[1];", 1, 0);
        b.close("Terms 1: of ( [ { those count that are open at once");
    }

    private static void emptyBlocks() {
        b.programDue("proc p{}if a=1{}else{}while a=1{}call p;", 3, 0);
        b.programDue("if a=1{if b=1{}}", 2, 0);
        b.faultDue("if a=1{;}", 7, 1);
        b.faultDue("if a=1{{}}", 7, 1);
        b.close("Terms 1: BLOCK: no STEPS, or some");
    }

    private static void elseOfAnIf() {
        b.programDue("if a=1{}else{}", 1, 0);
        b.programDue("if a=1{}end;", 2, 0);
        b.faultDue("if a=1{}else{}else{}", 14, 1);
        b.faultDue("while a=1{}else{}", 11, 1);
        b.faultDue("else{}", 0, 1);
        b.faultDue("if a=1{else{}}", 7, 1);
        b.programDue("if a=1{if b=1{}else{}}else{}", 2, 0);
        b.close("Terms 1: 'else' behind an 'if', once or not");
    }

    private static void asOftenAsTold() {
        b.programDue("a=1;", 1, 0);
        b.programDue("a=1+2-3;b=1*2/3;c=1*2+3/4-5*6;", 3, 0);
        b.faultDue("a=;", 2, 1);
        b.faultDue("a=+1;", 2, 1);
        b.faultDue("a=1+;", 4, 1);
        b.faultDue("a=1*;", 4, 1);
        b.faultDue("a=1-*2;", 4, 1);
        b.faultDue("a=1//2;", 4, 1);
        b.faultDue("a=();", 3, 1);
        b.faultDue("a=cell[];", 7, 1);
        b.close("Terms 1: SUM, PRODUCT: one part, or as many as are told");
    }

    private static void condsOfTests() {
        b.programDue("must a=1;", 1, 0);
        b.programDue("must a=1 and b=1 or c=1 or d=1 and e=1;", 1, 0);
        b.programDue("must a=1" + Bench.times(" and a=1", 40) + Bench.times(" or a=1", 20) + ";", 1, 0);
        b.faultDue("must ;", 5, 1);
        b.faultDue("must a;", 6, 1);
        b.faultDue("must a=1 or;", 11, 1);
        b.faultDue("must and a=1;", 5, 1);
        b.faultDue("must (a=1) or b=1;", 7, 1);
        b.faultDue("must a=1=1;", 8, 1);
        b.close("Terms 1: COND, ALL: one TEST, or as many as are told");
    }

    private static void relations() {
        for (String r : new String[] {"<", "=", ">", "#"}) {
            b.programDue("must a" + r + "b;", 1, 0);
            b.faultDue("must a" + r + r + "b;", 7, 1);
        }
        b.faultDue("must a+b;", 8, 1);
        b.faultDue("must a<=b;", 7, 1);
        for (String r : new String[] {"<", ">", "#"}) {
            b.faultDue("a" + r + "1;", 1, 1);
        }
        b.close("Terms 1: R one of < = > #");
    }

    private static void firstAlongTheText() {
        b.faultDue("a=256;A", 2, 2);
        b.faultDue("A;a=256;", 0, 1);
        b.faultDue("call p;a=256;", 5, 4);
        b.faultDue("a=256;call p;", 2, 2);
        b.faultDue(Bench.times("a=1;", 60) + "a=256;", 240, 3);
        b.faultDue(Bench.times("a=1;", 59) + "a=256;a=1;", 238, 2);
        b.faultDue("a=1 a=256;", 4, 1);
        b.faultDue("proc p{call q;}proc p{}", 12, 4);
        b.close("Terms 1: FAULTS, the first along the text");
    }

    private static void leastOfOneToken() {
        String units = "a=b" + Bench.times("+b", 149);
        b.faultDue(units + "+255;", 302, 3);
        b.faultDue(units + "+256;", 302, 2);
        b.faultDue(units + "+1000;", 302, 1);
        b.faultDue(units + "+;", 302, 1);
        b.faultDue(units + "+p;", 302, 1);
        b.faultDue(Bench.times("end;", 60) + "256;", 240, 1);
        b.faultDue(Bench.times("end;", 60) + "}", 240, 1);
        b.faultDue(Bench.times("end;", 60) + "proc", 240, 1);
        b.faultDue("a=" + Bench.times("(", 10) + "[", 12, 1);
        b.faultDue("a=" + Bench.times("(", 10) + "{", 12, 1);
        b.faultDue("a=" + Bench.times("(", 10) + "256", 12, 2);
        b.faultDue("must p=1;", 5, 1);
        b.faultDue("proc p{}proc a{}", 13, 1);
        b.claimFaultDue("a=b" + Bench.times("+b", 148) + "+256", 300, 2);
        b.close("Terms 1: FAULTS of one TOKEN: the least kind");
    }

    private static void whatCannotCome() {
        String[] texts = {"a@=1;", "a=@1;", "a=1@;", "must a=1@;", "must@;", "if a=1@{}", "if a=1{@}", "ask @b;",
            "ask b@;", "call @p;", "end@;", "proc @p{}", "proc p@{}", "cell@[1]=2;", "cell[1@]=2;", "cell[1]@=2;",
            "a=cell@[1];", "a=(1@);", "end;@", "while a=1@{}", "let @a=1;", "if a=1{}@"};
        for (String text : texts) {
            b.faultDue(text.replace("@", "?"), text.indexOf('@'), 1);
            b.faultDue(text.replace("@", " proc "), text.indexOf('@') + 1, 1);
        }
        b.close("Terms 1: FAULT 1: no TOKEN, or one that can't come: at it");
    }

    private static void theEndsPlace() {
        String[] texts = {"a", "a=", "a=1", "a=1+", "a=(", "a=(1", "a=cell", "a=cell[", "a=cell[1", "cell", "cell[1]",
            "must", "must a", "must a=", "must a=1", "must a=1 and", "if a=1", "if a=1{", "if a=1{end;", "while",
            "if a=1{}else", "if a=1{}else{", "ask", "ask b", "call", "end", "proc", "proc p", "proc p{", "let a=1"};
        for (String text : texts) {
            b.faultDue(text, text.length(), 1);
            b.faultDue(text + " \n", text.length() + 2, 1);
            b.faultDue(text + Bench.times(" ", 500 - text.length()), 500, 1);
        }
        b.claimFaultDue("a=1 and ", 8, 1);
        b.claimFaultDue("a", 1, 1);
        b.close("Terms 1: FAULT 1 at the end: how many bytes there are");
    }

    private static void moreThan500() {
        b.faultDue("a=1;" + Bench.times(" ", 498) + "?", 500, 1);
        b.faultDue("a=" + Bench.times(" ", 499) + "256;", 500, 1);
        b.faultDue("a=" + Bench.times(" ", 510), 500, 1);
        b.faultDue("a=(" + Bench.times(" ", 510), 500, 1);
        b.faultDue("a=cell" + Bench.times(" ", 510), 500, 1);
        b.faultDue("proc p{}proc" + Bench.times(" ", 510), 500, 1);
        b.claimFaultDue("a=1 and" + Bench.times(" ", 510), 500, 1);
        b.faultDue("proc p{}" + Bench.times(" ", 492) + "proc p{}", 500, 1);
        b.faultDue(Bench.times("end;", 60) + Bench.times(" ", 260) + "end;", 500, 1);
        b.faultDue(Bench.times(" ", 499) + "a=1;", 500, 1);
        b.faultDue("a=1;" + Bench.times(" ", 496) + "a=1;", 500, 1);
        b.close("Terms 1: FAULT 1 at 500, if there are more bytes");
    }

    private static void faultAheadOf500() {
        b.faultDue("a=1;" + Bench.times(" ", 495) + "?" + Bench.times(" ", 40), 499, 1);
        b.faultDue("a=" + Bench.times(" ", 495) + "256;" + Bench.times(" ", 20), 497, 2);
        b.faultDue("call" + Bench.times(" ", 495) + "p;", 499, 4);
        b.faultDue(Bench.times("end;", 60) + Bench.times(" ", 259) + "end;", 499, 3);
        b.faultDue("A" + Bench.times(" ", 539), 0, 1);
        b.close("Terms 1: FAULT 1 at 500, if no FAULT is ahead");
    }

    private static void readWhole() {
        b.faultDue(Bench.times(" ", 499) + "end;", 500, 1);
        b.faultDue(Bench.times(" ", 499) + "endx;", 499, 1);
        b.faultDue(Bench.times(" ", 499) + "abcdef", 499, 1);
        b.faultDue("a=" + Bench.times(" ", 497) + "255;", 500, 1);
        b.faultDue("a=" + Bench.times(" ", 497) + "256;", 499, 2);
        b.faultDue("a=" + Bench.times(" ", 497) + "1000;", 499, 1);
        b.faultDue("a=" + Bench.times(" ", 497) + "1a;", 499, 1);
        b.faultDue("a=" + Bench.times(" ", 498) + "256;", 500, 1);
        b.faultDue("a=" + Bench.times("b", 538), 2, 1);
        b.claimFaultDue("a=" + Bench.times(" ", 497) + "256", 499, 2);
        b.claimFaultDue("a=" + Bench.times(" ", 497) + "25", 500, 1);
        b.close("Terms 1: TOKENS that begin ahead of 500 are read whole");
    }

    private static void numbersAbove255() {
        b.programDue("a=254;a=255;", 2, 0);
        b.faultDue("a=256;", 2, 2);
        b.faultDue("a=999;", 2, 2);
        b.faultDue("a=b+260", 4, 2);
        b.faultDue("cell[300]=1;", 5, 2);
        b.faultDue("must 1=256;", 7, 2);
        b.faultDue("a=(256);", 3, 2);
        b.claimDue("a=255", 1, 0);
        b.claimFaultDue("a=256", 2, 2);
        b.close("Terms 1: FAULT 2: a NUMBER above 255, at it");
    }

    private static void placesOfFault3() {
        String sixty = Bench.times("a=1;", 60);
        String[] steps = {"a=1;", "cell[1]=1;", "if a=1{}", "while a=1{}", "must a=1;", "let a=1;", "ask a;", "end;",
            "call p;"};
        for (String step : steps) {
            b.faultDue("proc p{}" + sixty + " " + step, 249, 3);
        }
        String units = "a=b" + Bench.times("+b", 149);
        for (String unit : new String[] {"1", "b", "cell[1]", "(1)"}) {
            b.faultDue(units + "+ " + unit + ";", 303, 3);
        }
        b.faultDue("a=" + Bench.times("(", 10) + " (1", 13, 3);
        b.faultDue("a=" + Bench.times("(", 10) + " cell [1", 18, 3);
        b.faultDue(Bench.times("if 1=1{", 10) + "if 1=1 {", 77, 3);
        b.close("Terms 1: FAULT 3: at the first TOKEN of a 61st STEP, a 151st UNIT, at an eleventh ( [ {");
    }

    private static void placesOfFault4() {
        b.faultDue("proc p { } proc  p { }", 17, 4);
        b.faultDue("call  q ;", 6, 4);
        b.faultDue("proc p{}call p?", 14, 1);
        b.faultDue("proc p{}proc p", 13, 4);
        b.faultDue("call r", 5, 4);
        b.close("Terms 1: FAULT 4: a PROC told twice, or not told ahead, at it");
    }

    /* One object reads a text after the other, with FAULTS and without: what is counted begins at 0 each time. */
    private static void textsAreReadAnew() {
        String units = "a=b" + Bench.times("+b", 149);
        String open = "a=" + Bench.times("(", 10) + "1" + Bench.times(")", 10) + ";";
        AllWays x = new AllWays();
        for (int i = 0; i < 3; i++) {
            b.due("60 STEPS", Bench.program(x, 0, Bench.times("end;", 60)), 60);
            b.due("61 STEPS", Bench.program(x, 0, Bench.times("end;", 61)), -241);
            b.due("150 UNITS", Bench.program(x, 0, units + ";"), 1);
            b.due("151 UNITS", Bench.program(x, 0, units + "+b;"), -303);
            b.due("10 open", Bench.program(x, 0, open), 1);
            b.due("10 open, not closed", Bench.program(x, 0, "a=" + Bench.times("(", 10)), -13);
            b.due("p to s", Bench.program(x, 0, "proc p{}proc q{}proc r{}proc s{}call p;"), 1);
            b.due("p is not told", Bench.program(x, 0, "call p;"), -6);
        }
        x = new AllWays();
        for (int i = 0; i < 3; i++) {
            b.due("20 TESTS", Bench.claim(x, "a=1" + Bench.times(" and a=1", 19)), 20);
            b.due("21 TESTS", Bench.claim(x, "a=1" + Bench.times(" and a=1", 20)), -161);
            b.due("149 UNITS more", Bench.claim(x, "a=b" + Bench.times("+b", 148)), 1);
            b.due("150 UNITS more", Bench.claim(x, "a=b" + Bench.times("+b", 149)), -301);
        }
        x = new AllWays();
        for (int i = 0; i < 4; i++) {
            Bench.program(x, 0, "c=5;c=6;c=7;c=8;c=9;");
            Bench.program(x, 0, "while a=a{b=1;}must 1=2;");
            Bench.program(x, 0, "b=2;while a>7{}must 3=4;");
            b.due("the NUMBERS of this text", x.mend(0, 1), 2);
            x.walk(0, 1);
            b.due("no 'while' of an earlier text", x.rounds(0, 1), -1);
            b.due("the 'while' of this text", x.rounds(1, 1), 0);
        }
        b.close("Terms 1: what a text may have counts for each text alone");
    }

    /* Texts as long as they may be, one after the other, and each of them goes to its end. */
    private static void longTextsOneAfterTheOther() {
        AllWays x = new AllWays();
        for (int i = 0; i < 14; i++) {
            // 147 UNITS in 50 STEPS: h is 10 times 1 + i, what stands ahead counts nothing.
            String text = Bench.times("b=c+0-d;", 39) + Bench.times("h=h+1+i;".replace("i", "" + i), 10) + "end;";
            b.due("STEPS", Bench.program(x, 0, text), 50);
            b.due("end", x.run(0, 0, 1), 0);
            b.due("its end's STEP", x.got(16), 49);
            b.due("h", x.got(7), 10 * (1 + i) % 8);
        }
        x = new AllWays();
        for (int i = 0; i < 14; i++) {
            b.due("TESTS", Bench.claim(x, "0=b+c+d+e" + Bench.times(" and 0=b+c+d+e+f", 18) + " and a=" + i), 20);
            b.due("the last TEST counts", x.holds(), i % 8);
        }
        b.close("Terms 1: long texts, one after the other");
    }
}
