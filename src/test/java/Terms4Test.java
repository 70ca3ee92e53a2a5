/** Terms 4: each sentence about CLAIMS and PROOFS that names a boundary case, a test of its own. */
public final class Terms4Test {
    private static final Bench b = new Bench();
    private static final int[][] EIGHT = {{2, 3, 1}, {2, 2, 2}, {4, 1, 1}, {4, 2, 0}};
    private static final int[][] ABOVE = {{3, 3, 0}, {3, 2, 1}, {3, 1, 2}, {5, 1, 1}, {5, 2, 0}, {2, 3, 2}, {6, 2, 0},
        {6, 1, 1}, {4, 3, 0}, {4, 1, 2}, {3, 2, 2}};

    public static void main(String[] args) {
        claimOfOneTest();
        claimOfTwentyTests();
        claimOf21Tests();
        claimFaultsAsAbove();
        claimNoTextOfSteps();
        namesAtTheBeginning();
        cellsAtTheBeginning();
        harmByDivision();
        harmByACell();
        harmOfOneTestAlone();
        holdsForEachRow();
        proofSizes();
        checkSizes();
        proofOfOneByte();
        proofOfTheTwentiethTest();
        proofBits();
        proofBitsOfAnswers();
        proofHalves();
        proofPartedNoMore();
        proofFewestBytes();
        proofOfLikeOnesTheFirst();
        proofNone();
        proofOf511Bytes();
        checkTooFew();
        checkTooMany();
        checkEveryByte();
        checkAnyProof();
        callThatThrows();
        b.finish();
    }

    private static AllWays claimed(String text, int bits, int letters, int answers) {
        AllWays x = new AllWays();
        x.sizes(bits, letters, answers);
        int told = Bench.claim(x, text);
        if (told < 0) {
            throw new IllegalStateException("claim told " + told + ": " + text);
        }
        return x;
    }

    private static AllWays claimed(String text) {
        return claimed(text, 3, 1, 0);
    }

    // ---- CLAIMS ------------------------------------------------------------------------------------------------

    private static void claimOfOneTest() {
        b.claimDue("a=1", 1, 0);
        b.claimDue("1<2", 1, 0);
        b.claimFaultDue("", 0, 1);
        b.claimFaultDue("and", 0, 1);
        b.claimFaultDue("a=1 and", 7, 1);
        b.claimFaultDue("a=1 and and b=1", 8, 1);
        b.claimDue("a=1 and b=1", 2, 0);
        b.close("Terms 4: a CLAIM has one TEST or more");
    }

    private static void claimOfTwentyTests() {
        for (int tests = 1; tests <= 20; tests++) {
            b.claimDue("a=1" + Bench.times(" and a=1", tests - 1), tests, 0);
        }
        AllWays x = claimed("a=a" + Bench.times(" and a=a", 18) + " and a=5");
        b.due("the 20th counts", x.holds(), 5);
        b.close("Terms 4: 20 TESTS at most");
    }

    private static void claimOf21Tests() {
        String twenty = "a=1" + Bench.times(" and a=1", 19);
        for (String test : new String[] {"a=1", "255=a", "cell[1]=1", "(1)=1"}) {
            b.claimFaultDue(twenty + " and " + test, 160, 3);
            b.claimFaultDue(twenty + " and\n\n" + test, 161, 3);
        }
        b.claimFaultDue(twenty + " and " + "256=a", 160, 2);
        b.claimFaultDue(twenty + " and " + "1000=a", 160, 1);
        b.claimFaultDue(twenty + " and " + "i=a", 160, 1);
        b.claimFaultDue(twenty + " and ", 160, 1);
        b.claimFaultDue(twenty + " or a=1", 156, 1);
        b.claimFaultDue(twenty + Bench.times(" and a=1", 20), 160, 3);
        b.close("Terms 4: a 21st TEST is 3 at its first TOKEN");
    }

    private static void claimFaultsAsAbove() {
        b.claimFaultDue("a=?", 2, 1);
        b.claimFaultDue("a=1 and b=256", 10, 2);
        b.claimFaultDue("a=1 and " + Bench.times("(", 10) + "cell[", 8 + 10 + 4, 3);
        b.claimFaultDue("a=1 and p=1", 8, 1);
        b.claimFaultDue("a=1 and cell=1", 12, 1);
        b.claimFaultDue("a=1\tand b=1", 3, 1);
        AllWays x = new AllWays();
        Bench.claim(x, "p=1");
        b.due("a PROC is no NAME, told ahead or not", x.fault(), 1);
        b.close("Terms 4: FAULTS of a CLAIM as above");
    }

    private static void claimNoTextOfSteps() {
        b.claimFaultDue("a=1;", 3, 1);
        b.claimFaultDue("a=1 or b=1", 4, 1);
        b.claimFaultDue("must a=1;", 0, 1);
        b.claimFaultDue("a=1 b=1", 4, 1);
        b.claimFaultDue("a", 1, 1);
        b.claimFaultDue("a+1", 3, 1);
        b.claimFaultDue("a<b<c", 3, 1);
        b.claimFaultDue("{a=1}", 0, 1);
        b.claimFaultDue("end;", 0, 1);
        b.close("Terms 4: a CLAIM is TEST { 'and' TEST } alone");
    }

    private static void namesAtTheBeginning() {
        AllWays x = claimed("a=7 and b=0 and c=0 and d=0 and e=0 and f=0 and g=0 and h=0");
        b.due("L 1", x.holds(), 7);
        x.sizes(3, 1, 2);
        b.due("answers are none of them", x.holds(), 7);
        x.sizes(3, 2, 0);
        b.due("L 2, b is 0", x.holds(), 7);
        Bench.claim(x, "a=7 and b=7 and c=0");
        b.due("L 2", x.holds(), 63);
        x.sizes(4, 3, 0);
        Bench.claim(x, "a=15 and b=15 and c=15 and d=0");
        b.due("L 3", x.holds(), 4095);
        Bench.program(x, 0, "a=1;b=2;d=3;");
        x.run(0, 0, 1);
        b.due("whatever ran", x.holds(), 4095);
        b.close("Terms 4: a CLAIM's NAMES are as at the beginning of a RUN");
    }

    private static void cellsAtTheBeginning() {
        AllWays x = claimed("cell[a]=0 and a=7");
        b.due("CELL 7", x.holds(), 7);
        Bench.program(x, 0, "cell[7]=5;cell[0]=5;");
        x.run(0, 0, 1);
        b.due("whatever ran", x.holds(), 7);
        Bench.claim(x, "cell[a]#0");
        b.due("none", x.holds(), -1);
        b.close("Terms 4: a CLAIM's CELLS are as at the beginning of a RUN");
    }

    private static void harmByDivision() {
        b.due("1/0 is no 0", claimed("1/a=0").holds(), 2);
        b.due("nor unlike", claimed("1/a#7 and a<2").holds(), 1);
        b.due("on both sides", claimed("7/a=7/a and a<2").holds(), 1);
        b.due("on the right", claimed("0<1/a").holds(), 1);
        b.due("for all ROWS", claimed("1/0=1/0").holds(), -1);
        b.due("for all ROWS", claimed("1/8#9").holds(), -1);
        b.due("in a part", claimed("0*(1/a)=0").holds(), 1);
        b.close("Terms 4: a TEST does not hold, if a SUM in it comes to harm (2)");
    }

    private static void harmByACell() {
        b.due("CELL 7", claimed("cell[a]=0 and a>6", 4, 1, 0).holds(), 7);
        b.due("CELL 8", claimed("cell[a]=0 and a>7", 4, 1, 0).holds(), -1);
        b.due("nor unlike", claimed("cell[a]#1 and a>7", 4, 1, 0).holds(), -1);
        b.due("CELL 63", claimed("0*cell[a]=0 and a>7", 6, 1, 0).holds(), -1);
        b.due("of 3 bits 8 is 0", claimed("cell[a+1]=0 and a>6").holds(), 7);
        b.close("Terms 4: a TEST does not hold, if a SUM in it comes to harm (3)");
    }

    private static void harmOfOneTestAlone() {
        AllWays x = claimed("a=0 and 1/a=1");
        // Of ROW 0 TEST 1 alone does not hold, of all others TEST 0.
        b.due("none", x.holds(), -1);
        b.due("TEST 0 holds for 0", Bench.check(x, 2, 100, 100), 1);
        b.due("TEST 1 holds for none of 0, 2, 4, 6", Bench.check(x, 0, 101, 100), -1);
        b.due("TEST 1 holds for 1", Bench.check(x, 2, 101, 100), 1);
        x = claimed("1/a=1 and a=1");
        b.due("harm ahead of another", x.holds(), 1);
        x = claimed("cell[a]=0 and a=3 and 1/b=0 and c=0", 4, 2, 0);
        b.due("harm behind others", x.holds(), 3 + 16 * 2);
        b.close("Terms 4: harm of one TEST leaves the others as they are");
    }

    private static void holdsForEachRow() {
        b.due("the first ROW", claimed("a<8-1").holds(), 0);
        b.due("the last ROW", claimed("a>6").holds(), 7);
        b.due("all ROWS", claimed("a=a").holds(), 0);
        b.due("no ROW", claimed("a#a").holds(), -1);
        b.due("the last of all", claimed("a=63 and b=63", 6, 2, 0).holds(), 4095);
        b.due("above 8 bits", claimed("a+b+c=0 and a>b and b>c", 3, 3, 0).holds(), 15);
        b.due("no CLAIM", new AllWays().holds(), -2);
        b.close("Terms 4: a CLAIM holds for a ROW, the first, the last, all, none");
    }

    // ---- PROOFS ------------------------------------------------------------------------------------------------

    private static void proofSizes() {
        AllWays x = claimed("a#a");
        b.proofDue(x, 100);
        for (int[] s : EIGHT) {
            x.sizes(s[0], s[1], s[2]);
            b.proofDue(x, 100);
        }
        for (int[] s : ABOVE) {
            b.due("SIZES are", x.sizes(s[0], s[1], s[2]), true);
            b.due("above 8", x.proof(), -2);
            b.due("the latest stays", x.proofAt(0), 100);
        }
        x.sizes(2, 1, 0);
        b.proofDue(x, 100);
        Bench.claim(x, "a=1");
        b.due("none", x.proof(), -1);
        x.sizes(6, 2, 0);
        b.due("above 8", x.proof(), -2);
        b.close("Terms 4: a PROOF: B times L and O together 8 at most");
    }

    private static void checkSizes() {
        AllWays x = claimed("a#a");
        for (int[] s : EIGHT) {
            x.sizes(s[0], s[1], s[2]);
            b.due("8", Bench.check(x, 100), -1);
            b.due("8", Bench.check(x, 7, 100, 100), -1);
            b.due("8", Bench.check(x, 8, 100, 100), 0);
        }
        for (int[] s : ABOVE) {
            x.sizes(s[0], s[1], s[2]);
            b.due("above 8", Bench.check(x, 100), -2);
            b.due("the tape is empty then", x.count(3), 0);
        }
        x.sizes(2, 1, 0);
        b.due("2", Bench.check(x, 100), -1);
        b.close("Terms 4: a PROOF that is told: B times L and O together 8 at most");
    }

    private static void proofOfOneByte() {
        b.proofDue(claimed("a#a"), 100);
        b.proofDue(claimed("a=a and a#a"), 101);
        b.proofDue(claimed("a#a and a<0"), 100);
        b.proofDue(claimed("1/0=1"), 100);
        b.proofDue(claimed("a#a", 4, 2, 0), 100);
        b.due("it is one", Bench.check(claimed("a#a"), 100), -1);
        b.due("it is none", Bench.check(claimed("a=0"), 100), 0);
        b.due("it is none for the last ROW", Bench.check(claimed("a=7"), 100), 0);
        b.close("Terms 4: 100 and t: TEST t holds for none of them");
    }

    private static void proofOfTheTwentiethTest() {
        AllWays x = claimed("a=a" + Bench.times(" and a=a", 18) + " and a#a");
        b.proofDue(x, 119);
        b.due("119", Bench.check(x, 119), -1);
        b.due("118 holds", Bench.check(x, 118), 0);
        b.due("120 is none", Bench.check(x, 120), 0);
        b.due("151, 32 more than the last, is none", Bench.check(x, 151), 0);
        b.due("255 is none", Bench.check(x, 255), 0);
        x = claimed("a#a");
        b.due("101 is none", Bench.check(x, 101), 0);
        b.due("132 is none", Bench.check(x, 132), 0);
        b.close("Terms 4: 100 and t: the last TEST, and none such");
    }

    private static void proofBits() {
        AllWays x = claimed("a>3 and a<4");
        b.proofDue(x, 2, 100, 101);
        b.due("bit 2 is there", Bench.check(x, 2, 100, 101), -1);
        b.due("bit 3 is not", Bench.check(x, 3, 100, 101), 0);
        b.due("99 is none", Bench.check(x, 99, 100, 101), 0);
        x = claimed("b>1 and b<2", 4, 2, 0);
        b.proofDue(x, 5, 6, 7, 100, 101, 101, 101);
        x = claimed("b>7 and b<8", 4, 2, 0);
        b.proofDue(x, 7, 100, 101);
        b.due("bit 8 is not", Bench.check(x, 8, 100, 101), 0);
        x = claimed("a>1 and a<2", 2, 1, 0);
        b.proofDue(x, 1, 100, 101);
        b.due("bit 2 is not", Bench.check(x, 2, 100, 101), 0);
        b.close("Terms 4: j below B times L and O");
    }

    private static void proofBitsOfAnswers() {
        AllWays x = claimed("a>1 and a<2", 2, 1, 1);
        b.proofDue(x, 1, 100, 101);
        b.due("bit 3 of an answer", Bench.check(x, 3, 1, 100, 101, 1, 100, 101), -1);
        b.due("bit 3 helps nothing", Bench.check(x, 3, 100, 101), 1);
        b.due("bit 4 is none", Bench.check(x, 4, 1, 100, 101, 1, 100, 101), 0);
        b.close("Terms 4: j of an answer's bits, too");
    }

    private static void proofHalves() {
        AllWays x = claimed("a>3 and a<4");
        b.due("with bit 2 0 first", Bench.check(x, 2, 100, 101), -1);
        b.due("not those with bit 2 1", Bench.check(x, 2, 101, 100), 1);
        b.due("not TEST 0 of the others", Bench.check(x, 2, 100, 100), 2);
        x = claimed("a=1 and a=2", 2, 1, 0);
        b.due("bit 0", Bench.check(x, 0, 100, 101), -1);
        b.due("bit 1", Bench.check(x, 1, 101, 100), -1);
        b.due("bit 1", Bench.check(x, 1, 100, 101), 1);
        b.due("both", Bench.check(x, 0, 1, 101, 100, 1, 101, 100), -1);
        b.close("Terms 4: those with bit j 0, then those with bit j 1, a PROOF each");
    }

    private static void proofPartedNoMore() {
        AllWays x = claimed("a>3 and a<4");
        b.due("bit 2 again", Bench.check(x, 2, 2, 100, 100, 101), 1);
        b.due("bit 2 again in the other half", Bench.check(x, 2, 100, 2, 101, 101), 2);
        b.due("bit 2 again below another", Bench.check(x, 2, 0, 2, 100, 100, 100, 101), 2);
        b.due("bit 0 in each half", Bench.check(x, 2, 0, 100, 100, 0, 101, 101), -1);
        b.due("bits 1 and 0 in each half", Bench.check(x, 2, 0, 1, 100, 100, 1, 100, 100, 1, 0, 101, 101, 101), -1);
        b.due("all bits, then one more", Bench.check(x, 0, 1, 2, 0), 3);
        b.close("Terms 4: ROWS that are parted by bit j ahead are no more");
    }

    private static void proofFewestBytes() {
        // By bit 2 two leaves, by bit 0 or 1 ahead of it four.
        b.proofDue(claimed("a>3 and a<4"), 2, 100, 101);
        AllWays x = claimed("a>3 and a<4");
        b.due("four will do", Bench.check(x, 0, 2, 100, 101, 2, 100, 101), -1);
        // One leaf though two would come ahead byte by byte.
        b.proofDue(claimed("a=1 and a=2 and a#a"), 102);
        b.proofDue(claimed("a+b=1 and a=b", 2, 2, 0), 0, 2, 100, 101, 2, 101, 100);
        b.close("Terms 4: the least PROOF has the fewest bytes of 100 and more");
    }

    private static void proofOfLikeOnesTheFirst() {
        // The lesser j.
        b.proofDue(claimed("a=1 and a=2", 2, 1, 0), 0, 100, 101);
        b.proofDue(claimed("a=1 and a=2"), 0, 100, 101);
        // The lesser t, of the whole and of a half.
        b.proofDue(claimed("a<0 and a#a and a>7"), 100);
        b.proofDue(claimed("a=a and a#a and a>7"), 101);
        b.proofDue(claimed("a>3 and a<4 and a>3 and a<4"), 2, 100, 101);
        b.proofDue(claimed("a<4 and a>3 and a>3 and a<4"), 2, 101, 100);
        b.proofDue(claimed("a=0 and a=3", 2, 1, 0), 0, 101, 100);
        b.close("Terms 4: of like PROOFS the first, byte by byte: the lesser t, the lesser j");
    }

    private static void proofNone() {
        for (int row = 0; row < 8; row++) {
            AllWays x = claimed("a=" + row);
            b.due("it holds for a ROW", x.proof(), -1);
            b.due("ahead of any", x.proofAt(0), -1);
            b.due("no byte will do", Bench.check(x, 100), 0);
        }
        AllWays x = claimed("a=15 and b=15", 4, 2, 0);
        b.due("for the last alone", x.proof(), -1);
        b.due("down to the last ROW", Bench.check(x, 0, 100, 1, 100, 2, 100, 3, 100, 4, 101, 5, 101, 6, 101, 7, 101,
                100), 16);
        b.close("Terms 4: there is no PROOF for what holds for a ROW");
    }

    /* Of 8 bits: whether their sum is odd takes each ROW alone. */
    private static int[] oddAndEven() {
        int[] bytes = new int[511];
        int end = oddAndEven(bytes, 0, 0, 0);
        if (end != 511) {
            throw new IllegalStateException("bytes: " + end);
        }
        return bytes;
    }

    private static int oddAndEven(int[] bytes, int at, int bit, int ones) {
        if (bit == 8) {
            bytes[at] = ones % 2 == 0 ? 101 : 100;
            return at + 1;
        }
        bytes[at] = bit;
        return oddAndEven(bytes, oddAndEven(bytes, at + 1, bit + 1, ones), bit + 1, ones + 1);
    }

    private static void proofOf511Bytes() {
        String sum = "8*(a+a/2+a/4+a/8+b+b/2+b/4+b/8)";
        AllWays x = claimed(sum + "=0 and " + sum + "=8", 4, 2, 0);
        b.due("none holds", x.holds(), -1);
        int[] bytes = oddAndEven();
        b.due("proof", x.proof(), 511);
        for (int k = 0; k < 511; k += k < 20 || k > 490 ? 1 : 7) {
            b.due("proofAt(" + k + ")", x.proofAt(k), bytes[k]);
        }
        b.due("proofAt(510)", x.proofAt(510), 101);
        b.due("proofAt(511)", x.proofAt(511), -1);
        AllWays y = claimed(sum + "=0 and " + sum + "=8", 4, 2, 0);
        b.due("check", Bench.check(y, bytes), -1);
        b.due("one less", Bench.check(y, java.util.Arrays.copyOf(bytes, 510)), 510);
        b.due("one more", Bench.check(y, java.util.Arrays.copyOf(bytes, 512)), 511);
        b.due("540 bytes", Bench.check(y, java.util.Arrays.copyOf(bytes, 540)), 511);
        bytes[510] = 100;
        b.due("the last one is wrong", Bench.check(y, bytes), 510);
        b.close("Terms 4: a PROOF of 511 bytes, the most that 8 bits can need");
    }

    private static void checkTooFew() {
        AllWays x = claimed("a>3 and a<4");
        b.due("none", Bench.check(x), 0);
        b.due("2", Bench.check(x, 2), 1);
        b.due("2, 100", Bench.check(x, 2, 100), 2);
        b.due("2, 100, 101", Bench.check(x, 2, 100, 101), -1);
        b.due("all bits", Bench.check(x, 0, 1, 2), 3);
        b.close("Terms 4: bytes that are too few: how many there are");
    }

    private static void checkTooMany() {
        AllWays x = claimed("a>3 and a<4");
        b.due("100 more", Bench.check(x, 2, 100, 101, 100), 3);
        b.due("0 more", Bench.check(x, 2, 100, 101, 0), 3);
        b.due("two more", Bench.check(x, 2, 100, 101, 2, 100), 3);
        x = claimed("a#a");
        b.due("one more", Bench.check(x, 100, 100), 1);
        b.close("Terms 4: bytes that are too many: the first behind the PROOF is wrong");
    }

    private static void checkEveryByte() {
        AllWays x = null;
        for (int given = 0; given < 256; given++) {
            // No more calls of one object than the document allows.
            if (given % 64 == 0) {
                x = claimed("a>3 and a#a and a<4");
            }
            int due = given < 3 ? 1 : given == 101 ? -1 : 0;
            b.due("first byte " + given, Bench.check(x, given), due);
        }
        x = claimed("a>3 and a#a and a<4");
        for (int given = 98; given < 106; given++) {
            boolean fine = given == 100 || given == 101;
            b.due("second byte " + given, Bench.check(x, 2, given, 102), fine ? -1 : 1);
            fine = given == 101 || given == 102;
            b.due("third byte " + given, Bench.check(x, 2, 100, given), fine ? -1 : 2);
        }
        b.close("Terms 4: every byte that can come in a PROOF, and that can't");
    }

    private static void checkAnyProof() {
        AllWays x = claimed("a=1 and a=2 and a#a", 2, 1, 0);
        b.due("the least", Bench.check(x, 102), -1);
        b.due("of two", Bench.check(x, 0, 100, 101), -1);
        b.due("of two more", Bench.check(x, 0, 102, 102), -1);
        b.due("of four", Bench.check(x, 1, 0, 102, 101, 0, 100, 102), -1);
        b.due("of four, one wrong", Bench.check(x, 1, 0, 102, 100, 0, 100, 102), 3);
        b.close("Terms 4: any PROOF is one, not the least alone");
    }

    private static void callThatThrows() {
        AllWays x = Bench.walked("if a>3{b=1;}", 1);
        x.feed(1, 2, 3, 4, 5);
        for (int n = 0; n < 3; n++) {
            b.due("throws", Bench.way(x, 2, 0), Bench.THROWS);
            b.due("throws", Bench.way(x, -1, 0), Bench.THROWS);
            b.due("throws", Bench.way(x, 0, 6), Bench.THROWS);
            b.due("throws", Bench.way(x, Integer.MIN_VALUE, Integer.MAX_VALUE), Bench.THROWS);
            b.wayDue(x, 0, 0, -1, 1, 4, 4, 2);
            b.wayDue(x, 1, 0, -1, 1, 4, 0, 1);
            b.due("tape", x.count(3), 20);
            b.due("along", x.along(7), 0);
            b.due("fault", x.fault(), 0);
        }
        x.sizes(3, 1, 0);
        b.due("nothing walked", Bench.way(x, 0, 0), Bench.THROWS);
        b.due("nothing walked", x.along(0), -1);
        b.due("walk", x.walk(0, 1), 2);
        b.wayDue(x, 0, 0, -1, 1, 4, 4, 2);
        b.close("Terms: a call that throws changes nothing");
    }
}
