/** A test for each promise of the document: ordinary inputs, the edges that it names, wrong inputs. */
public final class PromisesTest {
    private static final Bench b = new Bench();

    public static void main(String[] args) {
        promise1NewObject();
        promise2Feed();
        promise3End();
        promise4Program();
        promise4Faults();
        promise4Limits();
        promise4LongTexts();
        promise5Fault();
        promise6Sizes();
        promise7Walk();
        promise8Way();
        promise8Order();
        promise9Went();
        promise10Along();
        promise11Least();
        promise12May();
        promise13Law();
        promise14Cover();
        promise15CoverAt();
        promise16Alike();
        promise17Safe();
        promise18Unsafe();
        promise19Rule();
        promise20Rounds();
        promise21Laws();
        promise22LawAt();
        promise23Hangs();
        promise24Reach();
        promise25Mend();
        promise26Mended();
        promise27Claim();
        promise28Holds();
        promise29Proof();
        promise30ProofAt();
        promise31Check();
        promise32Run();
        promise32Fuel();
        promise33Got();
        promise34Count();
        b.finish();
    }

    private static void promise1NewObject() {
        AllWays x = new AllWays();
        b.due("tape", x.count(3), 0);
        b.due("B", x.count(0), 3);
        b.due("L", x.count(1), 1);
        b.due("O", x.count(2), 0);
        b.due("NONE", AllWays.NONE, -1);
        b.due("nothing walked: way", Bench.way(x, 0, 0), Bench.THROWS);
        b.due("nothing walked: went", x.went(0, 0), -1);
        b.due("nothing walked: along", x.along(0), -1);
        b.due("nothing walked: least", x.least(0, -1), -1);
        b.due("nothing walked: may", x.may(0, 0, 0), -1);
        b.due("nothing walked: law", x.law(0, 0, 1, 100), -1);
        b.due("nothing walked: cover", x.cover(), -1);
        b.due("nothing walked: rounds", x.rounds(0, 0), -1);
        b.due("nothing walked: laws", x.laws(0), -1);
        for (int k = 0; k < 4; k++) {
            b.due("empty text runs", x.run(k, 5, 1), 0);
            b.due("a", x.got(0), 5);
            b.due("empty text walks", x.walk(k, 1), 1);
        }
        b.close("promise 1: a new object");
    }

    private static void promise2Feed() {
        AllWays x = new AllWays();
        b.due("feed", x.feed(0x61206220, 0x2b20633d, -1, 0, 1), 20);
        b.due("count", x.count(3), 20);
        for (int i = 2; i <= 27; i++) {
            b.due("feed " + i, x.feed(0, 0, 0, 0, 0), 20 * i);
        }
        b.due("feed beyond 540", x.feed(0, 0, 0, 0, 0), -1);
        b.due("none came", x.count(3), 540);
        b.due("end", x.end(521), true);
        b.due("feed beyond 540 by one", x.feed(0, 0, 0, 0, 0), -1);
        b.due("none came", x.count(3), 521);
        b.due("end", x.end(520), true);
        b.due("feed up to 540", x.feed(0, 0, 0, 0, 0), 540);
        // The highest byte first: h=7;
        x.end(0);
        x.feed(0x683d373b, 0, 0, 0, 0x613d313b);
        x.end(4);
        b.due("program", x.program(0), 1);
        x.run(0, 0, 1);
        b.due("h", x.got(7), 7);
        // A byte above 127 is no TOKEN, and stays one byte.
        x.feed(0x613d313b, 0x80ff0000, 0, 0, 0);
        x.end(6);
        b.due("program with byte 128", x.program(0), -5);
        // Bytes come behind those that are there.
        x.feed(0x613d0000, 0, 0, 0, 0);
        x.end(2);
        x.feed(0x353b0000, 0, 0, 0, 0);
        x.end(4);
        b.due("a=5;", x.program(0), 1);
        x.run(0, 0, 1);
        b.due("a", x.got(0), 5);
        b.close("promise 2: feed");
    }

    private static void promise3End() {
        AllWays x = new AllWays();
        b.due("end(0) of an empty tape", x.end(0), true);
        b.due("end(1) of an empty tape", x.end(1), false);
        x.feed(0, 0, 0, 0, 0);
        b.due("end(-1)", x.end(-1), false);
        b.due("end(21)", x.end(21), false);
        b.due("stays", x.count(3), 20);
        b.due("end(20)", x.end(20), true);
        b.due("stays", x.count(3), 20);
        b.due("end(7)", x.end(7), true);
        b.due("seven", x.count(3), 7);
        b.due("end(8)", x.end(8), false);
        b.due("least int", x.end(Integer.MIN_VALUE), false);
        b.due("greatest int", x.end(Integer.MAX_VALUE), false);
        b.due("end(0)", x.end(0), true);
        b.due("empty", x.count(3), 0);
        b.close("promise 3: end");
    }

    private static void promise4Program() {
        b.programDue("", 0, 0);
        b.programDue(" \n ", 0, 0);
        b.programDue("a=1;", 1, 0);
        b.programDue("a = 1 ;\nb=a+ 2*3/(4-c) ; ", 2, 0);
        b.programDue("cell[a+cell[1]]=cell[b];", 1, 0);
        b.programDue("if a=1{}", 1, 0);
        b.programDue("if a=1{b=1;}else{c=1;d=1;}", 4, 0);
        b.programDue("while a<3 and b#1 or c>2{a=a+1;}", 2, 0);
        b.programDue("must a=1;let a=1;ask b;end;", 4, 0);
        b.programDue("procp{}", -1, 1);
        b.programDue("proc p{}proc q{call p;}proc r{call p;call q;}proc s{call r;}call s;", 5, 0);
        b.programDue("a=255;b=007;c=0;", 3, 0);
        AllWays x = Bench.with("h=3;");
        b.due("no such k", Bench.program(x, 4, "a=1;"), -1000);
        b.due("the tape is empty then", x.count(3), 0);
        b.due("no such k", Bench.program(x, -1, "a=1;"), -1000);
        b.due("the tape is empty then", x.count(3), 0);
        b.due("a FAULT", Bench.program(x, 0, "h=4;b"), -6);
        x.run(0, 0, 1);
        b.due("PROGRAM 0 stays", x.got(7), 3);
        b.due("three programs more", Bench.program(x, 3, "h=5;"), 1);
        x.run(0, 0, 1);
        b.due("of its own", x.got(7), 3);
        x.run(3, 0, 1);
        b.due("of its own", x.got(7), 5);
        b.due("walk", x.walk(0, 1), 1);
        b.due("another text", Bench.program(x, 0, "if a=1{}while a=5{a=0;}"), 3);
        b.due("what was walked stays", Bench.way(x, 0, 5), 1);
        b.due("no while was walked", x.rounds(1, 0), -1);
        b.due("may", x.may(0, 0, 0), 8);
        b.close("promise 4: program");
    }

    private static void promise4Faults() {
        b.faultDue("A", 0, 1);
        b.faultDue("a=1;\t", 4, 1);
        b.faultDue("a", 1, 1);
        b.faultDue("a=1 ", 4, 1);
        b.faultDue("ab=1;", 0, 1);
        b.faultDue("a1=1;", 0, 1);
        b.faultDue("i=1;", 0, 1);
        b.faultDue("p=1;", 0, 1);
        b.faultDue("a=p;", 2, 1);
        b.faultDue("a=0256;", 2, 1);
        b.faultDue("a=1b;", 2, 1);
        b.faultDue("whiles a=1{}", 0, 1);
        b.faultDue("a=1;endz;", 4, 1);
        b.faultDue("enda;", 0, 1);
        b.faultDue("end0;", 0, 1);
        b.faultDue("proc t{}", 5, 1);
        b.faultDue("proc pq{}", 5, 1);
        b.faultDue("proc p;", 6, 1);
        b.faultDue("proc p{", 7, 1);
        b.faultDue("proc p{}}", 8, 1);
        b.faultDue("a=1;proc p{}", 4, 1);
        b.faultDue("call t;", 5, 1);
        b.faultDue("call p", 5, 4);
        b.faultDue("proc p{}call p{", 14, 1);
        b.faultDue("must a;", 6, 1);
        b.faultDue("must a=1<2;", 8, 1);
        b.faultDue("must (a=1);", 7, 1);
        b.faultDue("must a=1 and;", 12, 1);
        b.faultDue("must a=1 or;", 11, 1);
        b.faultDue("let a=1{}", 7, 1);
        b.faultDue("if a=1;", 6, 1);
        b.faultDue("if a=1{};", 8, 1);
        b.faultDue("if a=1{}else if", 13, 1);
        b.faultDue("else{}", 0, 1);
        b.faultDue("while a=1{}else{}", 11, 1);
        b.faultDue("a==1;", 2, 1);
        b.faultDue("a=-1;", 2, 1);
        b.faultDue("a=1+;", 4, 1);
        b.faultDue("a=(1];", 4, 1);
        b.faultDue("a=cell(1);", 6, 1);
        b.faultDue("cell[1)=1;", 6, 1);
        b.faultDue("ask cell[1];", 4, 1);
        b.faultDue("ask ab;", 4, 1);
        b.faultDue("end", 3, 1);
        b.faultDue(";", 0, 1);
        b.faultDue("{}", 0, 1);
        b.faultDue("1=a;", 0, 1);
        b.faultDue("a=256;", 2, 2);
        b.faultDue("a=999", 2, 2);
        b.faultDue("256", 0, 1);
        b.faultDue("a=b 256;", 4, 1);
        b.faultDue("proc p{}proc p{}", 13, 4);
        b.faultDue("proc p{call p;}", 12, 4);
        b.faultDue("proc p{call q;}proc q{}", 12, 4);
        b.faultDue("proc q{}call p;", 13, 4);
        b.faultDue("a=256;A", 2, 2);
        b.faultDue("a=1 A;b=256;", 4, 1);
        b.close("promise 4: FAULTS 1, 2, 4 and their places");
    }

    private static void promise4Limits() {
        b.programDue(Bench.times("end;", 60), 60, 0);
        b.faultDue(Bench.times("end;", 60) + " end;", 241, 3);
        b.faultDue(Bench.times("end;", 60) + "else", 240, 1);
        b.programDue(Bench.times("end;", 60) + " \n", 60, 0);
        b.programDue("proc p{" + Bench.times("end;", 30) + "}" + Bench.times("a=1;", 30), 60, 0);
        b.faultDue("proc p{" + Bench.times("end;", 30) + "}" + Bench.times("a=1;", 31), 248, 3);
        b.programDue("a=b" + Bench.times("+b", 149) + ";", 1, 0);
        b.faultDue("a=b" + Bench.times("+b", 150) + ";", 302, 3);
        b.faultDue("a=b" + Bench.times("+b", 149) + "+256;", 302, 2);
        b.faultDue("a=b" + Bench.times("+b", 149) + "+;", 302, 1);
        // 'cell' [ SUM ] and ( SUM ) are UNITS of their own, the place of a STEP's own CELL is not.
        b.programDue("cell[b]=b" + Bench.times("+b", 144) + "+(b)+cell[b];", 1, 0);
        b.faultDue("cell[b]=b" + Bench.times("+b", 144) + "+(b)+cell[b]+b;", 310, 3);
        b.faultDue("a=b" + Bench.times("+b", 149) + "+cell[", 302, 3);
        b.faultDue("a=b" + Bench.times("+b", 149) + "+(", 302, 3);
        b.programDue("a=" + Bench.times("(", 10) + "b" + Bench.times(")", 10) + ";", 1, 0);
        b.faultDue("a=" + Bench.times("(", 11) + "b", 12, 3);
        b.faultDue("a=" + Bench.times("(", 10) + "cell[", 16, 3);
        b.faultDue("a=" + Bench.times("(", 10) + "{", 12, 1);
        b.programDue(Bench.times("if a=1{", 10) + Bench.times("}", 10), 10, 0);
        b.programDue("a=" + Bench.times("cell[", 10) + "b" + Bench.times("]", 10) + ";", 1, 0);
        b.faultDue("a=" + Bench.times("cell[", 11) + "b", 56, 3);
        b.programDue(Bench.times("cell[", 10) + "b" + Bench.times("]", 10) + "=1;", 1, 0);
        b.faultDue(Bench.times("cell[", 11) + "b", 54, 3);
        b.faultDue("cell[(cell[((((((((1))))))))])]=1;", 18, 3);
        b.programDue("cell[(cell[(((((((1)))))))])]=1;", 1, 0);
        b.faultDue(Bench.times("if a=1{", 10) + "if a=1{", 76, 3);
        b.faultDue(Bench.times("if a=1{", 10) + "if a=(1", 75, 3);
        b.faultDue(Bench.times("if a=1{", 10) + "cell[", 74, 3);
        b.programDue("proc p{" + Bench.times("while a=1{", 8) + "a=(1);" + Bench.times("}", 9), 9, 0);
        b.faultDue("proc p{" + Bench.times("while a=1{", 8) + "a=((1));", 90, 3);
        // What is closed counts no more.
        b.programDue("a=((((((1))))))+((((((1))))));b=((((((1))))));", 2, 0);
        b.close("promise 4: FAULT 3 and its places");
    }

    private static void promise4LongTexts() {
        String longText = "a=1;" + Bench.times(" ", 496);
        b.programDue(longText, 1, 0);
        b.faultDue(longText + " ", 500, 1);
        b.faultDue(longText + "a=1;", 500, 1);
        b.faultDue("a=1;" + Bench.times(" ", 495) + "a=1;", 500, 1);
        b.faultDue("a=1 " + Bench.times(" ", 496), 500, 1);
        // TOKENS that begin ahead of 500 are read whole.
        b.faultDue("a=1;" + Bench.times(" ", 494) + "end;", 500, 1);
        b.faultDue("a=1;" + Bench.times(" ", 494) + "en;", 498, 1);
        b.faultDue("a=1;" + Bench.times(" ", 494) + "endend;", 498, 1);
        b.faultDue("a=1;a=" + Bench.times(" ", 493) + "255;", 500, 1);
        b.faultDue("a=1;a=" + Bench.times(" ", 493) + "256;", 499, 2);
        b.faultDue("a=1;a=" + Bench.times(" ", 493) + "2555;", 499, 1);
        b.faultDue("a=1;a=" + Bench.times(" ", 494) + "256;", 500, 1);
        b.faultDue(Bench.times("a", 540), 0, 1);
        b.faultDue(Bench.times(" ", 540), 500, 1);
        b.close("promise 4: texts of more than 500 bytes");
    }

    private static void promise5Fault() {
        AllWays x = new AllWays();
        b.due("ahead of any", x.fault(), 0);
        Bench.program(x, 7, "A");
        b.due("behind -1000", x.fault(), 0);
        Bench.program(x, 0, "a=256;");
        b.due("2", x.fault(), 2);
        Bench.program(x, 4, "");
        b.due("-1000 counts nothing", x.fault(), 2);
        Bench.claim(x, "a=1 or");
        b.due("a claim's", x.fault(), 1);
        Bench.claim(x, "((((((((((((1");
        b.due("a claim's", x.fault(), 3);
        Bench.program(x, 0, "call p;");
        b.due("4", x.fault(), 4);
        Bench.claim(x, "a=1");
        b.due("none", x.fault(), 0);
        Bench.program(x, 0, "a");
        Bench.program(x, 1, "");
        b.due("none", x.fault(), 0);
        b.close("promise 5: fault");
    }

    private static void promise6Sizes() {
        AllWays x = new AllWays();
        x.walk(0, 1);
        int[][] wrong = {{1, 1, 0}, {7, 1, 0}, {3, 0, 0}, {2, 4, 0}, {2, 1, -1}, {2, 1, 3}, {5, 2, 1}, {6, 1, 2},
            {4, 3, 1}, {5, 3, 0}, {-2, 1, 1}, {Integer.MIN_VALUE, 1, 0}, {2, Integer.MAX_VALUE, 0},
            {2, 1, Integer.MAX_VALUE}};
        for (int[] w : wrong) {
            b.due("wrong sizes", x.sizes(w[0], w[1], w[2]), false);
            b.due("what was walked stays", x.along(0), 0);
            b.due("B", x.count(0), 3);
        }
        b.due("the same sizes", x.sizes(3, 1, 0), true);
        b.due("nothing is walked then", x.along(0), -1);
        b.due("nothing is walked then", Bench.way(x, 0, 0), Bench.THROWS);
        int[][] right = {{2, 1, 0}, {6, 1, 1}, {4, 3, 0}, {4, 1, 2}, {3, 2, 2}, {2, 3, 2}, {6, 2, 0}, {5, 1, 1}};
        for (int[] r : right) {
            b.due("sizes", x.sizes(r[0], r[1], r[2]), true);
            b.due("B", x.count(0), r[0]);
            b.due("L", x.count(1), r[1]);
            b.due("O", x.count(2), r[2]);
            x.walk(0, 1);
            b.due("ROWS", Bench.way(x, 0, 3), 1 << (r[0] * (r[1] + r[2])));
        }
        // A text's NUMBERS wrap by the SIZES of the RUN, not of the reading.
        x = Bench.with("h=200+100;");
        x.sizes(6, 1, 0);
        x.run(0, 0, 1);
        b.due("300 by 64", x.got(7), 44);
        x.sizes(2, 1, 0);
        x.run(0, 0, 1);
        b.due("300 by 4", x.got(7), 0);
        b.close("promise 6: sizes");
    }

    private static void promise7Walk() {
        AllWays x = Bench.with("if a<3{must a#1;}else{h=7/(a-5);}");
        b.due("walk", x.walk(0, 5), 4);
        b.due("no such k", x.walk(4, 5), -1);
        b.due("no such k", x.walk(-1, 5), -1);
        b.due("no such FUEL", x.walk(0, 0), -1);
        b.due("no such FUEL", x.walk(0, 41), -1);
        b.due("what was walked stays", x.along(0), 1);
        b.due("another PROGRAM", x.walk(1, 40), 1);
        b.due("is walked now", x.along(0), 0);
        x = Bench.with("if a>0{}if a>1{}if a>2{}if a>3{}if a>4{}if a>5{}if a>6{}");
        b.due("a WAY a ROW", x.walk(0, 40), 8);
        x.sizes(6, 2, 0);
        Bench.program(x, 0, "while a>0{a=a-1;}while b>0{b=b-1;}");
        // a, b from 0 to 40 with a + b + 2 up to 40 end; all others run out of fuel, at 0 or at 2.
        int ends = 0;
        int later = 0;
        for (int a = 0; a < 64; a++) {
            for (int c = 0; c < 64; c++) {
                ends += a + c + 2 <= 40 ? 1 : 0;
            }
            later += a < 40 ? 1 : 0;
        }
        b.due("many WAYS", x.walk(0, 40), ends + later + 1);
        b.close("promise 7: walk");
    }

    private static void promise8Way() {
        AllWays x = Bench.with("if a<3{must a#1;}else{h=7/(a-5);}");
        x.walk(0, 5);
        b.wayDue(x, 0, 1, 1, 1, 1, 1, 2);
        b.wayDue(x, 1, 0, -1, 1, 2, 0, 2);
        b.wayDue(x, 2, 2, 2, 1, 1, 5, 2);
        b.wayDue(x, 3, 0, -1, 1, 4, 3, 2);
        b.due("way(4, 0)", Bench.way(x, 4, 0), Bench.THROWS);
        b.due("way(-1, 0)", Bench.way(x, -1, 0), Bench.THROWS);
        b.due("way(0, 6)", Bench.way(x, 0, 6), Bench.THROWS);
        b.due("way(0, -1)", Bench.way(x, 0, -1), Bench.THROWS);
        x = Bench.with("end;a=1;");
        x.walk(0, 1);
        b.wayDue(x, 0, 0, 0, 0, 8, 0, 1);
        x = Bench.with("let a>5;");
        x.walk(0, 1);
        b.wayDue(x, 0, 4, 0, 0, 6, 0, 1);
        b.wayDue(x, 1, 0, -1, 0, 2, 6, 1);
        x = Bench.with("while a=a{}");
        x.walk(0, 40);
        b.wayDue(x, 0, 5, 0, 40, 8, 0, 41);
        // A call of q takes 280 STEPS, and 840 + 1 + 5 * 31 + 1 are 997: the 1001st is the fourth of p.
        x = Bench.with("proc p{" + Bench.times("b=1;", 30) + "}proc q{" + Bench.times("call p;", 9)
                + "}call q;call q;call q;call q;");
        x.walk(0, 1);
        b.wayDue(x, 0, 5, 3, 0, 8, 0, 1001);
        b.close("promise 8: way");
    }

    private static void promise8Order() {
        // What ends at a STEP is ahead of what goes on there, of several the lesser end; the end behind the last
        // STEP is no end at that STEP.
        AllWays x = Bench.with("must 8/a+cell[a-4]#1;", 4, 1, 0);
        x.walk(0, 1);
        b.wayDue(x, 0, 1, 0, 0, 4, 5, 1);
        b.wayDue(x, 1, 2, 0, 0, 1, 0, 1);
        b.wayDue(x, 2, 3, 0, 0, 7, 1, 1);
        b.wayDue(x, 3, 0, -1, 0, 4, 4, 1);
        // An end in a COND is ahead of both DECISIONS, yes is ahead of no whatever comes of it.
        x = Bench.with("if 4/a>1{a=a;a=a;a=1/(a-1);}else{end;}h=1;");
        x.walk(0, 1);
        b.wayDue(x, 0, 2, 0, 0, 1, 0, 1);
        b.wayDue(x, 1, 2, 3, 1, 1, 1, 4);
        b.wayDue(x, 2, 0, -1, 1, 1, 2, 5);
        b.wayDue(x, 3, 0, 4, 1, 5, 3, 2);
        // Fewer rounds end behind more: the no comes behind the yes.
        x = Bench.with("while a>0{a=a-1;}");
        x.walk(0, 8);
        b.wayDue(x, 0, 0, -1, 8, 1, 7, 15);
        b.wayDue(x, 7, 0, -1, 1, 1, 0, 1);
        x.walk(0, 3);
        b.wayDue(x, 0, 5, 0, 3, 5, 3, 7);
        b.wayDue(x, 1, 0, -1, 3, 1, 2, 5);
        b.close("promise 8: the ORDER of WAYS");
    }

    private static void promise9Went() {
        AllWays x = Bench.with("while a>0{a=a-1;if a=2{}}");
        x.walk(0, 40);
        b.due("along", x.along(3), 0);
        int[] three = {1, 1, 1, 0, 1, 0, 0};
        for (int d = 0; d < three.length; d++) {
            b.due("went(0, " + d + ")", x.went(0, d), three[d]);
        }
        b.due("went(0, 7)", x.went(0, 7), -1);
        b.due("went(0, -1)", x.went(0, -1), -1);
        b.due("went(8, 0)", x.went(8, 0), -1);
        b.due("went(-1, 0)", x.went(-1, 0), -1);
        b.due("went(7, 0)", x.went(7, 0), 0);
        b.due("went(7, 1)", x.went(7, 1), -1);
        x = Bench.with("while a=a{}");
        x.walk(0, 40);
        b.due("the fortieth", x.went(0, 39), 1);
        b.due("no 41st", x.went(0, 40), -1);
        b.close("promise 9: went");
    }

    private static void promise10Along() {
        AllWays x = Bench.with("if a<3{must a#1;}else{h=7/(a-5);}");
        x.walk(0, 5);
        int[] along = {1, 0, 1, 3, 3, 2, 3, 3};
        for (int row = 0; row < 8; row++) {
            b.due("along(" + row + ")", x.along(row), along[row]);
        }
        b.due("along(8)", x.along(8), -1);
        b.due("along(-1)", x.along(-1), -1);
        x = Bench.with("ask c;if a+2*b=c{}", 2, 2, 1);
        x.walk(0, 5);
        // a 1, b 2, the answer behind the letters: 1 + 4 * 2 + 16 * 1.
        b.due("along(25)", x.along(25), 0);
        b.due("along(9)", x.along(9), 1);
        b.due("along(63)", x.along(63), 1);
        b.due("along(64)", x.along(64), -1);
        b.close("promise 10: along");
    }

    private static void promise11Least() {
        AllWays x = Bench.with("let a>0;must a>1;b=6/(a-2);while a>5{}end;");
        x.walk(0, 3);
        int[][] due = {{4, 0, 0}, {4, -1, 0}, {4, 1, -1}, {1, 1, 1}, {1, -1, 1}, {2, 2, 2}, {2, -1, 2}, {3, -1, -1},
            {5, 3, 6}, {5, -1, 6}, {0, 4, 3}, {0, -1, 3}, {0, 0, -1}, {6, -1, -1}, {-1, -1, -1}, {0, 5, -1},
            {0, 60, -1}, {0, -2, -1}, {7, -1, -1}, {8, -1, -1}};
        for (int[] d : due) {
            b.due("least(" + d[0] + ", " + d[1] + ")", x.least(d[0], d[1]), d[2]);
        }
        b.close("promise 11: least");
    }

    private static void promise12May() {
        AllWays x = Bench.with("if a=5{let a=0;b=1;}b=a*2;while a<2{a=a+1;}end;c=1;");
        x.walk(0, 40);
        // The ROW 5 ends by 4 and counts nothing, not even ahead of that.
        int[][] due = {{0, 0, 0, 7}, {0, 0, 1, 0}, {0, 0, 2, 7}, {1, 0, 0, -1}, {2, 0, 0, -1}, {3, 0, 0, 7},
            {3, 1, 0, 1}, {3, 1, 2, 0}, {4, 0, 0, 7}, {4, 1, 0, 4}, {4, 1, 1, 0}, {4, 1, 2, 6}, {5, 0, 0, 2},
            {5, 0, 1, 0}, {5, 0, 2, 1}, {6, 0, 0, 5}, {6, 0, 1, 2}, {6, 0, 2, 7}, {7, 0, 0, -1}, {8, 0, 0, -1},
            {-1, 0, 0, -1}, {60, 0, 0, -1}, {0, 8, 0, -1}, {0, -1, 0, -1}, {0, 0, 3, -1}, {0, 0, -1, -1}};
        for (int[] d : due) {
            b.due("may(" + d[0] + ", " + d[1] + ", " + d[2] + ")", x.may(d[0], d[1], d[2]), d[3]);
        }
        // Nothing is left of an earlier walk.
        Bench.program(x, 1, "let a=1;end;");
        x.walk(1, 1);
        b.due("one number", x.may(0, 0, 0), 1);
        b.due("one number", x.may(1, 0, 2), 1);
        b.due("one number", x.may(0, 1, 0), 1);
        b.due("STEP of the earlier one", x.may(4, 0, 0), -1);
        x = Bench.with("b=a;end;", 6, 1, 0);
        x.walk(0, 1);
        b.due("64 numbers", x.may(1, 1, 0), 64);
        b.due("up to 63", x.may(1, 1, 2), 63);
        // A STEP that runs out of fuel is BEGUN all the same.
        x = Bench.with("a=1;if a=a{}if a=a{}a=2;");
        x.walk(0, 1);
        b.due("BEGUN at the end of the fuel", x.may(2, 0, 0), 1);
        b.due("not behind it", x.may(3, 0, 0), -1);
        b.close("promise 12: may");
    }

    private static void promise13Law() {
        AllWays x = Bench.with("let a>1;let a<6;b=a+1;c=a;if a=3{d=a-1;}e=7;let a=9;");
        Bench.program(x, 0, "let a>1;let a<6;b=a+1;c=a;if a=3{d=a-1;}e=7;end;");
        x.walk(0, 5);
        b.lawDue(x, 6, 0, "1001", 1);
        b.lawDue(x, 6, 1, "0011", 0);
        b.lawDue(x, 6, 0, "0100", 2);
        b.lawDue(x, 6, 2, "0100", 0);
        b.lawDue(x, 6, 0, "0100", 0);
        b.lawDue(x, 6, 3, "1001", 0);
        b.lawDue(x, 6, 0, "0011", 3);
        b.lawDue(x, 5, 0, "0100", 103);
        b.lawDue(x, 6, 0, "0011", 101);
        b.lawDue(x, 6, 0, "0000", 102);
        b.lawDue(x, 6, 0, "0000", 105);
        b.lawDue(x, 6, 0, "1001", 106);
        b.lawDue(x, 6, 3, "0000", 102);
        b.lawDue(x, 6, 3, "1001", 103);
        b.lawDue(x, 6, 3, "0001", 101);
        b.lawDue(x, 6, 4, "0100", 100);
        b.lawDue(x, 7, 4, "0100", 107);
        b.lawDue(x, 7, 4, "0011", 100);
        // What ROWS do that end by 4 counts nothing: at the beginning a is 2 to 5.
        b.lawDue(x, 0, 0, "0011", 101);
        int[][] none = {{8, 0, 0, 1}, {-1, 0, 0, 1}, {0, 8, 0, 1}, {0, -1, 0, 1}, {0, 0, 4, 1}, {0, 0, -1, 1},
            {0, 0, 0, 8}, {0, 0, 0, 99}, {0, 0, 0, -1}, {0, 0, 0, 108}, {60, 0, 0, 1}};
        for (int[] n : none) {
            b.due("law of none such", x.law(n[0], n[1], n[2], n[3]), -1);
        }
        b.due("the greatest number", x.law(0, 0, 0, 107), 1);
        x = Bench.with("if a>7{b=1;}else{end;}");
        x.walk(0, 5);
        b.due("never BEGUN", x.law(1, 0, 1, 0), -1);
        x.sizes(6, 1, 0);
        x.walk(0, 5);
        b.due("63 is a number", x.law(0, 0, 2, 163), 0);
        b.due("64 is none", x.law(0, 0, 2, 164), -1);
        b.due("a may be 63", x.law(2, 0, 0, 163), 1);
        b.due("a may be 63", x.law(1, 0, 0, 163), 0);
        b.close("promise 13: law");
    }

    private static void promise14Cover() {
        AllWays x = Bench.with("a=1;");
        b.due("nothing walked", x.cover(), -1);
        x.walk(0, 1);
        b.due("one", x.cover(), 1);
        b.due("the least", x.coverAt(0), 0);
        x = Bench.with("if a>2{b=1;}if a<6{b=2;}");
        x.walk(0, 5);
        b.due("one goes through all", x.cover(), 1);
        b.due("the least such", x.coverAt(0), 3);
        x = Bench.with("if a>2{b=1;}else{b=2;}if a=5{b=3;}");
        x.walk(0, 5);
        b.due("two", x.cover(), 2);
        b.due("the lesser", x.coverAt(0), 0);
        b.due("the other", x.coverAt(1), 5);
        b.due("no third", x.coverAt(2), -1);
        x = Bench.with("if a=1{b=1;}if a=4{b=2;}if a=6{b=3;}");
        x.walk(0, 5);
        b.due("three are needed", x.cover(), -1);
        // ROWS that end by 4 BEGIN nothing that counts.
        x = Bench.with("if a=1{b=1;}if a=4{b=2;}if a=6{let a=0;}");
        x.walk(0, 5);
        b.due("two", x.cover(), 2);
        b.due("the lesser", x.coverAt(0), 1);
        b.due("the other", x.coverAt(1), 4);
        x = Bench.with("let a#a;");
        x.walk(0, 5);
        b.due("nothing to cover", x.cover(), 0);
        x = Bench.with("let a=3;");
        x.walk(0, 5);
        b.due("one", x.cover(), 1);
        b.due("that does not end by 4", x.coverAt(0), 3);
        x = Bench.with("if a<2{let a=9;}if a=5{b=1;}else{b=2;}");
        x.walk(0, 5);
        b.due("two", x.cover(), 2);
        b.due("the lesser", x.coverAt(0), 1);
        b.due("the other", x.coverAt(1), 5);
        // Of several pairs the first ROW counts most.
        x = Bench.with("if a#0{if a#7{if a<4{b=1;}else{b=2;}}}");
        x.walk(0, 5);
        b.due("two", x.cover(), 2);
        b.due("the lesser", x.coverAt(0), 1);
        b.due("the other", x.coverAt(1), 4);
        b.close("promise 14: cover");
    }

    private static void promise15CoverAt() {
        AllWays x = Bench.with("if a>2{b=1;}else{b=2;}");
        b.due("ahead of any", x.coverAt(0), -1);
        x.cover();
        b.due("nothing walked", x.coverAt(0), -1);
        x.walk(0, 5);
        x.cover();
        b.due("0", x.coverAt(0), 0);
        b.due("1", x.coverAt(1), 3);
        b.due("-1", x.coverAt(-1), -1);
        b.due("2", x.coverAt(2), -1);
        Bench.program(x, 1, "if a=1{b=1;}if a=4{b=2;}if a=6{b=3;}");
        x.walk(1, 5);
        b.due("the latest is the one that was asked", x.coverAt(1), 3);
        b.due("NONE", x.cover(), -1);
        b.due("stays", x.coverAt(0), 0);
        b.due("stays", x.coverAt(1), 3);
        x.sizes(3, 1, 0);
        b.due("NONE", x.cover(), -1);
        b.due("stays", x.coverAt(1), 3);
        x.walk(2, 5);
        b.due("no ROWS", x.cover(), 0);
        b.due("none such", x.coverAt(0), -1);
        b.close("promise 15: coverAt");
    }

    private static void promise16Alike() {
        AllWays x = Bench.with("h=a+a;");
        Bench.program(x, 1, "b=7;h=2*a;cell[1]=3;");
        Bench.program(x, 2, "h=a;if a=3{h=6;}else{h=h*2;}if a=5{must a=0;}");
        Bench.program(x, 3, "while a=a{}");
        b.due("alike", x.alike(0, 1, 1), -1);
        b.due("with itself", x.alike(2, 2, 1), -1);
        b.due("end 5 for all but ..", x.alike(0, 2, 1), 0);
        b.due("the least that parts them", x.alike(0, 2, 2), 5);
        b.due("both ways", x.alike(2, 0, 2), 5);
        b.due("5 and 5", x.alike(3, 3, 1), -1);
        b.due("5 and 0", x.alike(3, 0, 1), 0);
        Bench.program(x, 1, "h=a+a;if a=6{h=0;}");
        b.due("h parts them", x.alike(0, 1, 1), 6);
        Bench.program(x, 1, "must a#2;h=1;");
        Bench.program(x, 2, "h=1;if a=2{h=0;must a=0;}");
        b.due("with unlike h, but not by 0", x.alike(1, 2, 1), -1);
        Bench.program(x, 2, "if a=2{b=1/0;}h=1;");
        b.due("1 and 2", x.alike(1, 2, 1), 2);
        int[][] none = {{4, 0, 1}, {0, 4, 1}, {-1, 0, 1}, {0, -1, 1}, {0, 0, 0}, {0, 0, 41}};
        for (int[] n : none) {
            b.due("no such ones", x.alike(n[0], n[1], n[2]), -2);
        }
        x.sizes(2, 2, 1);
        Bench.program(x, 0, "ask c;h=c-c;");
        Bench.program(x, 1, "ask c;if c=3{if b=2{if a=1{h=1;}}}");
        b.due("answers part them", x.alike(0, 1, 9), 1 + 4 * 2 + 16 * 3);
        b.close("promise 16: alike");
    }

    private static void promise17Safe() {
        AllWays x = Bench.with("ask c;must c<a or a=3;b=4/(a-1);", 2, 1, 1);
        // Only with 3 all answers are fine.
        b.due("safe", x.safe(0, 5), 1);
        b.due("no such k", x.safe(4, 5), -1);
        b.due("no such k", x.safe(-1, 5), -1);
        b.due("no such FUEL", x.safe(0, 0), -1);
        b.due("no such FUEL", x.safe(0, 41), -1);
        Bench.program(x, 0, "ask c;if c=1{let c=2;}if a=2{while a=a{}}must c#1;");
        b.due("4 and 5 are no harm", x.safe(0, 5), 4);
        x.sizes(3, 2, 0);
        Bench.program(x, 0, "ask c;must c=0;must a#b;");
        b.due("of 64 letters", x.safe(0, 1), 56);
        x.sizes(4, 1, 1);
        Bench.program(x, 0, "ask c;if a<8{d=cell[a];}else{d=cell[c];}");
        b.due("a CELL above 7 is harm", x.safe(0, 1), 8);
        b.close("promise 17: safe");
    }

    private static void promise18Unsafe() {
        AllWays x = Bench.with("must a#0;must a#5;");
        b.due("ahead of any", x.unsafe(), -1);
        x.safe(0, 0);
        b.due("NONE is none", x.unsafe(), -1);
        x.safe(0, 1);
        b.due("the least", x.unsafe(), 0);
        Bench.program(x, 1, "must a#6;must a#5;");
        b.due("safe", x.safe(1, 1), 6);
        b.due("the least", x.unsafe(), 5);
        x.safe(1, 41);
        x.safe(9, 1);
        b.due("stays behind NONE", x.unsafe(), 5);
        x.sizes(2, 1, 2);
        b.due("stays behind sizes", x.unsafe(), 5);
        Bench.program(x, 2, "ask c;ask d;must a*c*d<3;");
        // 3 comes of a 1 with answers 1 and 3, of a 3 with 1 and 1.
        b.due("safe", x.safe(2, 1), 2);
        b.due("the letters alone", x.unsafe(), 1);
        x.safe(3, 1);
        b.due("none", x.unsafe(), -1);
        b.close("promise 18: unsafe");
    }

    private static void promise19Rule() {
        AllWays x = Bench.with("ask b;must b>a or a=7;", 3, 1, 1);
        b.due("the greatest", x.rule(0, 1), 7);
        Bench.program(x, 0, "ask b;must b>4;ask c;must c<6;");
        b.due("behind the O-th ask, too", x.rule(0, 1), 5);
        Bench.program(x, 0, "ask b;must b>a;");
        b.due("none", x.rule(0, 1), -1);
        b.due("no ask", x.rule(1, 1), 0);
        Bench.program(x, 0, "must a<7;");
        b.due("no ask, harm", x.rule(0, 1), -1);
        Bench.program(x, 0, "ask b;if b<3{let a#a;must b>5;}must b#3;b=4/(b-4);if b>2{while a=a{}}must b>1;");
        b.due("4 and 5 are no harm", x.rule(0, 2), 0);
        x.sizes(3, 2, 0);
        Bench.program(x, 0, "ask c;must c*2=6;ask d;must d=c;");
        b.due("without answers in the ROW", x.rule(0, 2), 3);
        b.due("no such k", x.rule(4, 1), -2);
        b.due("no such k", x.rule(-1, 1), -2);
        b.due("no such FUEL", x.rule(0, 0), -2);
        b.due("no such FUEL", x.rule(0, 41), -2);
        b.close("promise 19: rule");
    }

    private static void promise20Rounds() {
        AllWays x = Bench.with("proc p{while b<2{b=b+1;}}if a=6{let a=0;}while a<4{a=a+1;}call p;b=0;call p;if a=9{}"
                + "while a>7{}");
        b.due("nothing walked", x.rounds(0, 0), -1);
        x.walk(0, 40);
        b.due("of both calls", x.rounds(0, 0), 4);
        b.due("of both calls", x.rounds(0, 1), 4);
        b.due("least", x.rounds(4, 0), 0);
        b.due("greatest", x.rounds(4, 1), 4);
        b.due("never", x.rounds(10, 1), 0);
        b.due("another what", x.rounds(4, 2), -1);
        b.due("another what", x.rounds(4, -1), -1);
        b.due("an if", x.rounds(2, 0), -1);
        b.due("a call", x.rounds(6, 0), -1);
        b.due("no such STEP", x.rounds(11, 0), -1);
        b.due("no such STEP", x.rounds(-1, 0), -1);
        b.due("no such STEP", x.rounds(64, 0), -1);
        x.walk(0, 3);
        // A DECISION that the fuel forbids is no yes: with a 0 the third yes is the last.
        b.due("with less FUEL", x.rounds(4, 1), 2);
        Bench.program(x, 0, "if a#7{while b<a{b=b+1;}}else{end;}let a>2;");
        x.walk(0, 40);
        b.due("RUNS without it count 0", x.rounds(1, 0), 0);
        b.due("not those that end by 4", x.rounds(1, 1), 6);
        Bench.program(x, 0, "while a<3{a=a+1;}let a=9;");
        x.walk(0, 40);
        b.due("all end by 4", x.rounds(0, 0), -1);
        b.close("promise 20: rounds");
    }

    private static void promise21Laws() {
        AllWays x = Bench.with("end;", 3, 3, 0);
        b.due("nothing walked", x.laws(0), -1);
        x.walk(0, 1);
        // d to h are 0: ten pairs of them.
        b.due("laws", x.laws(0), 10);
        b.due("no such STEP", x.laws(1), -1);
        b.due("no such STEP", x.laws(-1), -1);
        b.due("no such STEP", x.laws(60), -1);
        Bench.program(x, 0, "let a<b;let b<c;if a=7{d=1;}c=0;end;");
        x.walk(0, 1);
        b.due("a<b, a<c, b<c, c>d to c>h, b>d to b>h, ten", x.laws(0), 3 + 5 + 5 + 10);
        b.due("never BEGUN", x.laws(3), -1);
        b.due("c is 0: a<b, b>c to b>h, fifteen", x.laws(5), 1 + 6 + 15);
        Bench.program(x, 0, "let a#a;");
        x.walk(0, 1);
        b.due("all left out", x.laws(0), -1);
        b.close("promise 21: laws");
    }

    private static void promise22LawAt() {
        AllWays x = Bench.with("let a<b;let b<c;end;", 3, 3, 0);
        b.due("ahead of any", x.lawAt(0), -1);
        x.walk(0, 1);
        b.due("laws", x.laws(2), 23);
        int[] due = {10, 20, 120, 132, 142, 152, 162, 172, 232, 242, 252, 262, 272, 341, 351, 361, 371, 451, 461, 471,
            561, 571, 671};
        for (int k = 0; k < due.length; k++) {
            b.due("lawAt(" + k + ")", x.lawAt(k), due[k]);
        }
        b.due("lawAt(23)", x.lawAt(23), -1);
        b.due("lawAt(-1)", x.lawAt(-1), -1);
        x.laws(3);
        b.due("stays behind NONE", x.lawAt(1), 20);
        x.sizes(2, 1, 0);
        x.laws(0);
        b.due("stays behind sizes", x.lawAt(2), 120);
        Bench.program(x, 0, "end;");
        x.walk(0, 1);
        b.due("of the latest", x.laws(0), 21);
        b.due("of the latest", x.lawAt(0), 121);
        b.due("of the latest", x.lawAt(21), -1);
        b.close("promise 22: lawAt");
    }

    private static void promise23Hangs() {
        AllWays x = Bench.with("if b=2{h=a;}else{h=b;}", 2, 2, 1);
        b.due("on a, where b is 2", x.hangs(0, 0, 5), 8);
        b.due("on b", x.hangs(0, 1, 5), 0);
        b.due("no such letter", x.hangs(0, 2, 5), -2);
        b.due("no such letter", x.hangs(0, -1, 5), -2);
        b.due("no such k", x.hangs(4, 0, 5), -2);
        b.due("no such FUEL", x.hangs(0, 0, 0), -2);
        b.due("no such FUEL", x.hangs(0, 0, 41), -2);
        Bench.program(x, 0, "ask c;if c=3{if a=2{if b=1{must a=0;}}}");
        b.due("with an answer", x.hangs(0, 0, 5), 4 + 48);
        b.due("with an answer", x.hangs(0, 1, 5), 2 + 48);
        Bench.program(x, 0, "d=a;cell[1]=b;h=3;");
        b.due("not at all", x.hangs(0, 0, 5), -1);
        Bench.program(x, 0, "h=a;must b#b;");
        b.due("h counts behind end 0 alone", x.hangs(0, 0, 5), -1);
        Bench.program(x, 0, "if a=3{h=1/0;}else{must a=4;}");
        b.due("1 and 2", x.hangs(0, 0, 5), 0);
        b.close("promise 23: hangs");
    }

    private static void promise24Reach() {
        AllWays x = Bench.with("h=a*a;must a#2;");
        b.due("0", x.reach(0, 0, 1), 0);
        b.due("1", x.reach(0, 1, 1), 1);
        b.due("4, but not by 2, which ends by 1", x.reach(0, 4, 1), 6);
        b.due("2", x.reach(0, 2, 1), -1);
        b.due("7", x.reach(0, 7, 1), -1);
        b.due("8", x.reach(0, 8, 1), -2);
        b.due("-1", x.reach(0, -1, 1), -2);
        b.due("no such k", x.reach(4, 0, 1), -2);
        b.due("no such FUEL", x.reach(0, 0, 0), -2);
        b.due("no such FUEL", x.reach(0, 0, 41), -2);
        x.sizes(2, 1, 1);
        Bench.program(x, 0, "ask h;must h=3;ask b;must b=0;");
        b.due("the answer behind the letters", x.reach(0, 3, 1), 12);
        b.close("promise 24: reach");
    }

    private static void promise25Mend() {
        AllWays x = Bench.with("b=2;must a<5+b or a=7;");
        b.due("no need", x.mend(0, 1), -1);
        Bench.program(x, 0, "b=1;must a<5+b;");
        b.due("none does: 7 is not below 7", x.mend(0, 1), -1);
        Bench.program(x, 0, "b=1;must a<4+b or a=7;");
        b.due("NUMBER 0", x.mend(0, 1), 0);
        b.due("is 3 then", x.mended(), 3);
        x.run(0, 6, 1);
        b.due("the PROGRAM stays", x.got(1), 1);
        Bench.program(x, 0, "proc p{must a#4;}call p;");
        b.due("in a PROC; all NUMBERS wrap", x.mend(0, 1), -1);
        Bench.program(x, 0, "proc p{must a#4*1;}c=0/b;");
        b.due("none", x.mend(0, 1), -1);
        Bench.program(x, 0, "c=4/8;");
        b.due("8 is 0", x.mend(0, 1), 1);
        b.due("the least", x.mended(), 1);
        Bench.program(x, 0, Bench.times("a=1;", 19) + "must 0>8;");
        b.due("the 20th NUMBER", x.mend(0, 1), 19);
        b.due("the least", x.mended(), 1);
        Bench.program(x, 0, Bench.times("a=1;", 20) + "must b#0;");
        b.due("not the 21st", x.mend(0, 1), -1);
        b.due("no such k", x.mend(4, 1), -2);
        b.due("no such k", x.mend(-1, 1), -2);
        b.due("no such FUEL", x.mend(0, 0), -2);
        b.due("no such FUEL", x.mend(0, 41), -2);
        b.due("sizes", x.sizes(4, 1, 1), true);
        Bench.program(x, 0, "ask b;must b<15;");
        b.due("no mending", x.mend(0, 1), -1);
        Bench.program(x, 0, "ask b;c=cell[b/1];");
        b.due("b/2 is 7 at the most", x.mend(0, 1), 0);
        b.due("2", x.mended(), 2);
        b.due("sizes", x.sizes(3, 2, 1), true);
        b.due("9 bits", x.mend(0, 1), -2);
        b.close("promise 25: mend");
    }

    private static void promise26Mended() {
        AllWays x = Bench.with("must 3>a;");
        b.due("ahead of any", x.mended(), -1);
        b.due("none", x.mend(0, 1), -1);
        b.due("ahead of any that told one", x.mended(), -1);
        Bench.program(x, 0, "must a>6 or a<5;");
        b.due("which", x.mend(0, 1), 0);
        b.due("what", x.mended(), 0);
        Bench.program(x, 0, "must a>6 or a<6;");
        b.due("which", x.mend(0, 1), 0);
        b.due("what", x.mended(), 0);
        Bench.program(x, 0, "must a<7 or a=3;");
        b.due("which", x.mend(0, 1), 1);
        b.due("what", x.mended(), 7);
        b.due("no need", x.mend(1, 1), -1);
        b.due("-2", x.mend(1, 0), -2);
        b.due("stays", x.mended(), 7);
        b.close("promise 26: mended");
    }

    private static void promise27Claim() {
        b.claimDue("a=1", 1, 0);
        b.claimDue("a=1 and b<cell[2]and(a+b)*3>c", 3, 0);
        b.claimDue("", -1, 1);
        b.claimDue("  ", -3, 1);
        b.claimDue("a=1 and", -8, 1);
        b.claimDue("a=1 or b=1", -5, 1);
        b.claimDue("a=1;", -4, 1);
        b.claimDue("a", -2, 1);
        b.claimDue("(a=1)", -3, 1);
        b.claimDue("a=1 b", -5, 1);
        b.claimDue("a=256", -3, 2);
        b.claimDue("p=1", -1, 1);
        b.claimDue("a=1" + Bench.times(" and a=1", 19), 20, 0);
        b.claimDue("a=1" + Bench.times(" and a=1", 19) + " and 255=a", -161, 3);
        b.claimDue("a=1" + Bench.times(" and a=1", 19) + " and 256=a", -161, 2);
        b.claimDue("a=1" + Bench.times(" and a=1", 19) + " and ;", -161, 1);
        b.claimDue("a=1" + Bench.times(" and a=1", 19) + " and", -160, 1);
        b.claimDue("a=" + Bench.times("(", 11) + "a", -13, 3);
        b.claimDue("a=b" + Bench.times("+b", 148), 1, 0);
        b.claimDue("a=b" + Bench.times("+b", 149), -301, 3);
        b.claimDue("a=1" + Bench.times(" ", 497), 1, 0);
        b.claimDue("a=1" + Bench.times(" ", 498), -501, 1);
        AllWays x = new AllWays();
        Bench.claim(x, "a>3 and a<6");
        Bench.claim(x, "a=");
        b.due("the CLAIM stays", x.holds(), 4);
        b.close("promise 27: claim");
    }

    private static void promise28Holds() {
        AllWays x = new AllWays();
        b.due("no CLAIM", x.holds(), -2);
        Bench.claim(x, "a+");
        b.due("no CLAIM", x.holds(), -2);
        Bench.claim(x, "a>3 and a#4");
        b.due("the least", x.holds(), 5);
        Bench.claim(x, "a>3 and a<4");
        b.due("none", x.holds(), -1);
        Bench.claim(x, "1/a=0");
        b.due("harm is no yes", x.holds(), 2);
        Bench.claim(x, "a=0 and 1/a=1/a");
        b.due("harm is no yes", x.holds(), -1);
        x.sizes(4, 2, 0);
        Bench.claim(x, "cell[b]=0 and a=9 and c=0 and h=cell[7] and b>2");
        b.due("a is the lowest", x.holds(), 9 + 16 * 3);
        Bench.claim(x, "cell[8]=0");
        b.due("a CELL above 7", x.holds(), -1);
        Bench.claim(x, "0=cell[8-1]");
        b.due("CELL 7", x.holds(), 0);
        x.sizes(6, 2, 0);
        Bench.claim(x, "a=63 and b=63");
        b.due("the last of all ROWS", x.holds(), 4095);
        x.sizes(2, 1, 1);
        Bench.claim(x, "a=3 and b=0");
        b.due("answers are no letters", x.holds(), 3);
        b.close("promise 28: holds");
    }

    private static void promise29Proof() {
        AllWays x = new AllWays();
        b.due("no CLAIM", x.proof(), -2);
        Bench.claim(x, "a=1");
        b.due("it holds for 1", x.proof(), -1);
        Bench.claim(x, "a=1 and a=2 and a=8");
        // 8 is 0: no TEST fails for all; bit 0 parts a=1 from the others.
        b.proofDue(x, 0, 100 + 0, 100 + 1);
        Bench.claim(x, "a=a and b=1 and a#a");
        b.proofDue(x, 101);
        Bench.claim(x, "a>3 and a<4");
        b.proofDue(x, 2, 100, 101);
        x.sizes(2, 2, 0);
        Bench.claim(x, "a+b=1 and a=b");
        b.proofDue(x, 0, 2, 100, 101, 2, 101, 100);
        x.sizes(2, 3, 1);
        b.due("8 bits", x.proof() > 0, true);
        x.sizes(3, 3, 0);
        b.due("9 bits", x.proof(), -2);
        // A bit of an answer may be parted, too, but never helps.
        x.sizes(2, 1, 3 - 1);
        Bench.claim(x, "a<2 and a>1");
        b.proofDue(x, 1, 101, 100);
        x.sizes(4, 2, 0);
        Bench.claim(x, "a=b and a+1=b and a#b");
        b.due("three that cannot be", x.proof() > 0, true);
        b.close("promise 29: proof");
    }

    private static void promise30ProofAt() {
        AllWays x = new AllWays();
        b.due("ahead of any", x.proofAt(0), -1);
        Bench.claim(x, "a>3 and a<4");
        b.due("ahead of any", x.proofAt(0), -1);
        x.proof();
        b.due("0", x.proofAt(0), 2);
        b.due("2", x.proofAt(2), 101);
        b.due("3", x.proofAt(3), -1);
        b.due("-1", x.proofAt(-1), -1);
        Bench.claim(x, "a=1");
        b.due("there is none", x.proof(), -1);
        b.due("stays", x.proofAt(1), 100);
        x.sizes(6, 2, 0);
        b.due("too great", x.proof(), -2);
        b.due("stays", x.proofAt(1), 100);
        Bench.check(x, 2, 100, 101);
        b.due("stays behind check", x.proofAt(0), 2);
        x.sizes(3, 1, 0);
        Bench.claim(x, "a<0");
        b.due("one byte", x.proof(), 1);
        b.due("0", x.proofAt(0), 100);
        b.due("1", x.proofAt(1), -1);
        b.close("promise 30: proofAt");
    }

    private static void promise31Check() {
        AllWays x = new AllWays();
        b.due("no CLAIM", Bench.check(x, 100), -2);
        b.due("the tape is empty then", x.count(3), 0);
        Bench.claim(x, "a>3 and a<4");
        b.due("the least PROOF", Bench.check(x, 2, 100, 101), -1);
        b.due("the tape is empty then", x.count(3), 0);
        b.due("one that is not the least", Bench.check(x, 0, 2, 100, 101, 1, 2, 100, 101, 2, 100, 101), -1);
        b.due("too few", Bench.check(x), 0);
        b.due("too few", Bench.check(x, 2, 100), 2);
        b.due("too many", Bench.check(x, 2, 100, 101, 100), 3);
        b.due("a TEST that holds", Bench.check(x, 2, 101, 100), 1);
        b.due("a TEST that holds", Bench.check(x, 2, 100, 100), 2);
        b.due("no such TEST", Bench.check(x, 2, 102, 101), 1);
        b.due("no such TEST", Bench.check(x, 255), 0);
        b.due("no such bit", Bench.check(x, 3, 100, 101), 0);
        b.due("no such bit", Bench.check(x, 99, 100, 101), 0);
        b.due("parted ahead", Bench.check(x, 2, 0, 2, 100, 101), 2);
        b.due("parted ahead in the other half is fine", Bench.check(x, 2, 0, 100, 100, 0, 101, 101), -1);
        Bench.claim(x, "a=3 and a>2");
        b.due("it holds for 3", Bench.check(x, 0, 100, 1, 100, 2, 100, 100), 5);
        x.sizes(3, 3, 0);
        b.due("too great", Bench.check(x, 100), -2);
        b.due("the tape is empty then", x.count(3), 0);
        x.sizes(4, 2, 0);
        Bench.claim(x, "a#a");
        b.due("one of 8 bits", Bench.check(x, 7, 100, 6, 5, 100, 100, 100), -1);
        b.due("too few", Bench.check(x, 0, 1, 2, 3, 4, 5, 6, 7), 8);
        b.due("no bit is left", Bench.check(x, 0, 1, 2, 3, 4, 5, 6, 7, 0), 8);
        b.close("promise 31: check");
    }

    private static void promise32Run() {
        AllWays x = Bench.with("ask b;cell[a]=10/b;must cell[a]#3;let a#1;c=cell[a+b];ask d;ask e;", 4, 1, 1);
        b.due("1/0", x.run(0, 5, 1), 2);
        b.due("at", x.got(16), 1);
        b.due("a CELL above 7", x.run(0, 8 + 16, 1), 3);
        b.due("at", x.got(16), 1);
        b.due("/ ahead of the CELL", x.run(0, 8, 1), 2);
        b.due("must", x.run(0, 0 + 16 * 3, 1), 1);
        b.due("at", x.got(16), 2);
        b.due("let", x.run(0, 1 + 16 * 4, 1), 4);
        b.due("at", x.got(16), 3);
        b.due("a CELL above 7", x.run(0, 7 + 16, 1), 3);
        b.due("at", x.got(16), 4);
        b.due("fine", x.run(0, 2 + 16 * 4, 1), 0);
        b.due("at", x.got(16), -1);
        b.due("0 behind the last answer", x.got(3), 0);
        b.due("0 behind the last answer", x.got(4), 0);
        b.due("no such k", x.run(4, 0, 1), -1);
        b.due("no such k", x.run(-1, 0, 1), -1);
        b.due("no such ROW", x.run(0, 256, 1), -1);
        b.due("no such ROW", x.run(0, -1, 1), -1);
        b.due("no such FUEL", x.run(0, 0, 0), -1);
        b.due("no such FUEL", x.run(0, 0, 41), -1);
        // All parts of a COND are worked out, and what is met first counts, from the left.
        Bench.program(x, 0, "must 1=1 or 1/a=1;");
        b.due("no part is left out", x.run(0, 0, 1), 2);
        Bench.program(x, 0, "must 1=2 and cell[8+a]=1;");
        b.due("no part is left out", x.run(0, 0, 1), 3);
        Bench.program(x, 0, "b=cell[8]/0;");
        b.due("the CELL first", x.run(0, 0, 1), 3);
        Bench.program(x, 0, "b=1/0*cell[8];");
        b.due("the / first", x.run(0, 0, 1), 2);
        Bench.program(x, 0, "b=0/cell[8];");
        b.due("the CELL first", x.run(0, 0, 1), 3);
        Bench.program(x, 0, "cell[1/0]=cell[8];");
        b.due("the place first", x.run(0, 0, 1), 2);
        Bench.program(x, 0, "cell[cell[9]]=1/0;");
        b.due("the place first", x.run(0, 0, 1), 3);
        Bench.program(x, 0, "cell[9]=1/0;");
        b.due("whether there is such a place last", x.run(0, 0, 1), 2);
        Bench.program(x, 0, "must a=1 and 1=2 or 1=1 and a=2 or a=3;");
        for (int row = 0; row < 5; row++) {
            b.due("and ahead of or", x.run(0, row, 1), row == 2 || row == 3 ? 0 : 1);
        }
        Bench.program(x, 0, "h=20-3*4-1+7/2/2*3;");
        x.run(0, 0, 1);
        b.due("from the left: 4-12-1+3 by 16", x.got(7), 10);
        Bench.program(x, 0, "proc p{b=b+1;}proc q{call p;b=b+2;}proc r{call q;b=b+4;}proc s{call r;b=b+8;}"
                + "call s;call p;c=1;");
        b.due("PROCS that call PROCS", x.run(0, 0, 1), 0);
        b.due("16 by 16", x.got(1), 0);
        b.due("goes on behind them", x.got(2), 1);
        x.walk(0, 1);
        b.due("STEPS", Bench.way(x, 0, 5), 11);
        b.close("promise 32: run");
    }

    private static void promise32Fuel() {
        AllWays x = Bench.with("if a=a{}if a=a{}if 1/0=a{}");
        b.due("none left for the second", x.run(0, 0, 1), 5);
        b.due("at", x.got(16), 1);
        b.due("none left for the third, which is not worked out", x.run(0, 0, 2), 5);
        b.due("at", x.got(16), 2);
        b.due("the third comes to harm", x.run(0, 0, 3), 2);
        // 9 * 31 STEPS of 'call p' and p, and one of 'call q': 280; three of them and 159 more are 999.
        String text = "proc p{" + Bench.times("b=1;", 30) + "}proc q{" + Bench.times("call p;", 9)
                + "}call q;call q;call q;" + Bench.times("call p;", 5);
        Bench.program(x, 0, text + "c=1;c=2;c=3;c=4;c=5;");
        b.due("1000 STEPS", x.run(0, 0, 1), 0);
        b.due("all of them", x.got(2), 5);
        Bench.program(x, 0, text + "c=1;c=2;c=3;c=4;c=5;c=6;");
        b.due("1001 STEPS", x.run(0, 0, 1), 5);
        b.due("ahead of what it does", x.got(2), 5);
        b.due("at", x.got(16), 52);
        b.due("walk", x.walk(0, 1), 1);
        b.due("BEGUN it is", Bench.way(x, 0, 5), 1001);
        b.due("with what is there then", x.may(52, 2, 1), 5);
        Bench.program(x, 0, text + "c=1;c=2;c=3;c=4;c=5;end;");
        b.due("'end' too late", x.run(0, 0, 1), 5);
        // Fuel is for DECISIONS of 'if' and 'while' alike, not of 'must' and 'let'.
        Bench.program(x, 0, "must a=a;let a=a;must a=a;if a=a{while b<3{b=b+1;}}");
        b.due("five", x.run(0, 0, 5), 0);
        b.due("four", x.run(0, 0, 4), 5);
        b.due("at", x.got(16), 4);
        b.close("promise 32: FUEL and the 1001st STEP");
    }

    private static void promise33Got() {
        AllWays x = new AllWays();
        b.due("ahead of any", x.got(0), -1);
        b.due("ahead of any", x.got(16), -1);
        b.due("no such", x.run(0, 8, 1), -1);
        b.due("ahead of any but NONE", x.got(8), -1);
        x.sizes(2, 2, 1);
        Bench.program(x, 0, "ask h;c=a+b;cell[0]=1;cell[3]=h;cell[1+1]=cell[3]-1;end;d=1;");
        b.due("run", x.run(0, 3 + 4 * 2 + 16 * 3, 1), 0);
        int[] due = {3, 2, 1, 0, 0, 0, 0, 3, 1, 0, 2, 3, 0, 0, 0, 0, 5};
        for (int n = 0; n < due.length; n++) {
            b.due("got(" + n + ")", x.got(n), due[n]);
        }
        b.due("got(17)", x.got(17), -1);
        b.due("got(-1)", x.got(-1), -1);
        x.run(0, 64, 1);
        x.run(0, 0, 0);
        b.due("stays behind NONE", x.got(7), 3);
        Bench.program(x, 1, "h=1;cell[0]=2;");
        x.walk(1, 1);
        x.reach(1, 1, 1);
        Bench.claim(x, "a=3");
        x.holds();
        x.sizes(3, 1, 0);
        b.due("stays behind other calls", x.got(7), 3);
        b.due("stays behind other calls", x.got(8), 1);
        b.due("stays behind other calls", x.got(16), 5);
        x.run(1, 7, 1);
        b.due("of the latest", x.got(0), 7);
        b.due("of the latest", x.got(8), 2);
        b.due("of the latest", x.got(16), -1);
        b.close("promise 33: got");
    }

    private static void promise34Count() {
        AllWays x = new AllWays();
        x.sizes(4, 1, 2);
        x.feed(1, 2, 3, 4, 5);
        x.end(13);
        b.due("B", x.count(0), 4);
        b.due("L", x.count(1), 1);
        b.due("O", x.count(2), 2);
        b.due("bytes", x.count(3), 13);
        b.due("4", x.count(4), -1);
        b.due("-1", x.count(-1), -1);
        x.program(9);
        b.due("emptied", x.count(3), 0);
        b.close("promise 34: count");
    }
}
