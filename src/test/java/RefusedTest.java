import java.util.function.Consumer;

/**
 * Behind a refused call all later calls answer as if it had not been made. Two objects are led the same way, one of
 * them through the refused call, and then asked for all that can be asked.
 */
public final class RefusedTest {
    private static final Bench b = new Bench();

    /** What has been made when the refused call comes. */
    private enum State { NEW, LED, NOTHING_WALKED, GREAT_SIZES, FULL_TAPE }

    public static void main(String[] args) {
        tapeCalls();
        programs();
        claims();
        sizes();
        walks();
        asksOfAWalk();
        asksOfWhatWasTold();
        asksOfPrograms();
        proofs();
        manyAtOnce();
        b.finish();
    }

    // ---- the two objects ---------------------------------------------------------------------------------------

    private static AllWays led(State state) {
        AllWays x = new AllWays();
        if (state == State.NEW) {
            return x;
        }
        Bench.program(x, 0, "if a>3{must a#5;b=1;}while b<a{b=b+1;}let a#7;h=a;end;");
        Bench.program(x, 1, "ask b;must b+a#9;h=4/(a-2);");
        Bench.program(x, 2, "must 3>4 or b=b;let a<2 or 7=8;must 2=3;");
        Bench.program(x, 3, "h=a;");
        Bench.claim(x, "a>3 and a<4");
        x.walk(0, 9);
        x.cover();
        x.laws(2);
        x.safe(1, 3);
        x.mend(2, 3);
        x.proof();
        x.run(1, 6, 3);
        if (state == State.NOTHING_WALKED) {
            x.sizes(3, 1, 1);
        } else if (state == State.GREAT_SIZES) {
            x.sizes(3, 2, 1);
            x.walk(1, 2);
        }
        int feeds = state == State.FULL_TAPE ? 27 : 1;
        for (int i = 0; i < feeds; i++) {
            x.feed(0x613e3320, 0x616e6420, 0x613c3320, 0x20202020, 0x20202020);
        }
        x.end(state == State.FULL_TAPE ? 521 : 13);
        return x;
    }

    /** All that can be asked without a change, then calls that show PROGRAMS, CLAIM, SIZES, tape, then those again. */
    private static String told(AllWays x) {
        StringBuilder s = new StringBuilder();
        asked(x, s);
        for (int k = 0; k < 4; k++) {
            told(s, x.run(k, 3, 4), x.got(0), x.got(7), x.got(16), x.alike(k, 3, 4), x.safe(k, 4), x.unsafe());
            told(s, x.rule(k, 4), x.hangs(k, 0, 4), x.reach(k, 1, 4), x.mend(k, 4), x.mended(), x.walk(k, 4));
            told(s, x.cover(), x.coverAt(0), x.coverAt(1), x.laws(1), x.lawAt(0), x.along(5), x.rounds(1, 1));
        }
        told(s, x.holds(), x.proof(), x.proofAt(0), x.claim(), x.fault(), x.count(3), x.holds(), x.proof());
        told(s, x.feed(0, 0, 0, 0, 0), x.check(), x.count(3), x.program(0), x.fault());
        return s.toString();
    }

    private static void asked(AllWays x, StringBuilder s) {
        for (int what = 0; what < 4; what++) {
            told(s, x.count(what));
        }
        told(s, x.fault(), x.unsafe(), x.mended());
        for (int i = 0; i < 4; i++) {
            told(s, Bench.way(x, i, 0), Bench.way(x, i, 1), Bench.way(x, i, 3), Bench.way(x, i, 4), x.went(i, 0));
            told(s, x.coverAt(i), x.lawAt(7 * i), x.proofAt(i), x.got(5 * i + 1), x.along(2 * i), x.least(i, -1));
            told(s, x.may(i, 0, 0), x.may(i, 1, 2), x.law(i, 0, 2, 1), x.law(i, 1, 0, 107), x.rounds(i, 0));
        }
        s.append("/ ");
    }

    private static void told(StringBuilder s, int... answers) {
        for (int answer : answers) {
            s.append(answer).append(' ');
        }
    }

    /** The refused calls against other ones, often none. */
    private static void refused(String what, State state, Consumer<AllWays> refused, Consumer<AllWays> instead) {
        AllWays x = led(state);
        AllWays y = led(state);
        refused.accept(x);
        instead.accept(y);
        b.due(what + ", " + state, told(x), told(y));
    }

    private static void refused(String what, Consumer<AllWays> refused) {
        for (State state : State.values()) {
            refused(what, state, refused, y -> { });
        }
    }

    // ---- the calls ---------------------------------------------------------------------------------------------

    private static void tapeCalls() {
        refused("feed of a full tape", State.FULL_TAPE, x -> b.due("feed", x.feed(1, 2, 3, 4, 5), -1), y -> { });
        refused("feed twice", State.FULL_TAPE, x -> b.due("feed", x.feed(1, 2, 3, 4, 5) + x.feed(0, 0, 0, 0, 0), -2),
                y -> { });
        b.close("Behind a refused feed() (promise 2)");
        for (int n : new int[] {-1, 541, Integer.MIN_VALUE, Integer.MAX_VALUE}) {
            refused("end(" + n + ")", x -> b.due("end(" + n + ")", x.end(n), false));
        }
        refused("one more", x -> b.due("end", x.end(x.count(3) + 1), false));
        b.close("Behind a refused end() (promise 3)");
    }

    private static void programs() {
        for (int k : new int[] {-1, 4, Integer.MIN_VALUE, Integer.MAX_VALUE}) {
            for (State state : State.values()) {
                refused("program(" + k + ")", state, x -> b.due("program", x.program(k), -1000), y -> y.end(0));
            }
        }
        b.close("Behind program() of no such k: but that the tape is empty (promise 4)");
        String[] texts = {"?", "a", "h=1;a=256;", Bench.times("a=1;", 61), "call p;", "proc p{}proc p{}",
            Bench.times(" ", 501), "a=" + Bench.times("(", 11), "proc p{while a<3{a=a+cell[(b)]*2;", "must a=1 or b<2"};
        for (String text : texts) {
            for (State state : State.values()) {
                for (int k = 0; k < 4; k += 3) {
                    int which = k;
                    refused("program(" + k + ") of " + text, state, x -> {
                        b.due("a FAULT", Bench.program(x, which, text) < 0, true);
                        b.due("the CLAIM's and PROGRAM 2's texts", Bench.program(x, 2, "h=2;"), 1);
                    }, y -> Bench.program(y, 2, "h=2;"));
                }
            }
        }
        b.close("Behind program() with a FAULT: but for fault() and the tape (promise 4)");
    }

    private static void claims() {
        String[] texts = {"", "?", "a=1 and", "a=256", "a=1" + Bench.times(" and a=1", 20), "a=1 or b=1",
            Bench.times(" ", 501), Bench.times("(", 11), "a=1;"};
        for (String text : texts) {
            for (State state : State.values()) {
                refused("claim of " + text, state, x -> {
                    b.due("a FAULT", Bench.claim(x, text) < 0, true);
                    b.due("another text", Bench.program(x, 2, "h=2;"), 1);
                }, y -> Bench.program(y, 2, "h=2;"));
            }
        }
        b.close("Behind claim() with a FAULT: but for fault() and the tape (promise 27)");
    }

    private static void sizes() {
        int[][] wrong = {{1, 1, 0}, {7, 1, 0}, {3, 0, 0}, {3, 4, 0}, {3, 1, -1}, {3, 1, 3}, {5, 3, 0}, {6, 1, 2},
            {Integer.MIN_VALUE, 1, 0}, {3, Integer.MAX_VALUE, 0}, {3, 1, Integer.MAX_VALUE}};
        for (int[] w : wrong) {
            refused("sizes(" + w[0] + ", " + w[1] + ", " + w[2] + ")",
                    x -> b.due("sizes", x.sizes(w[0], w[1], w[2]), false));
        }
        b.close("Behind refused sizes() (promise 6)");
    }

    private static void walks() {
        for (int k : new int[] {-1, 4, Integer.MIN_VALUE, Integer.MAX_VALUE}) {
            refused("walk(" + k + ", 4)", x -> b.due("walk", x.walk(k, 4), -1));
        }
        for (int fuel : new int[] {-1, 0, 41, Integer.MIN_VALUE, Integer.MAX_VALUE}) {
            refused("walk(1, " + fuel + ")", x -> b.due("walk", x.walk(1, fuel), -1));
        }
        b.close("Behind a refused walk() (promise 7)");
    }

    private static void asksOfAWalk() {
        refused("way", x -> {
            for (int n : new int[] {-1, 4096, Integer.MIN_VALUE, Integer.MAX_VALUE}) {
                b.due("way(" + n + ", 0)", Bench.way(x, n, 0), Bench.THROWS);
                b.due("way(0, " + n + ")", Bench.way(x, 0, n), Bench.THROWS);
            }
        });
        b.close("Behind way() that throws (promise 8, Terms: a call that throws changes nothing)");
        refused("went, along, least", x -> {
            for (int n : new int[] {-2, 4096, Integer.MIN_VALUE, Integer.MAX_VALUE}) {
                b.due("went(" + n + ", 0)", x.went(n, 0), -1);
                b.due("went(0, " + n + ")", x.went(0, n), -1);
                b.due("along(" + n + ")", x.along(n), -1);
                b.due("least(" + n + ", -1)", x.least(n, -1), -1);
                b.due("least(0, " + n + ")", x.least(0, n), -1);
            }
        });
        b.close("Behind refused went(), along(), least() (promises 9 to 11)");
        refused("may, law, rounds", x -> {
            for (int n : new int[] {-1, 64, 99, Integer.MIN_VALUE, Integer.MAX_VALUE}) {
                b.due("may(" + n + ", 0, 0)", x.may(n, 0, 0), -1);
                b.due("may(0, " + n + ", 0)", x.may(0, n, 0), -1);
                b.due("may(0, 0, " + n + ")", x.may(0, 0, n), -1);
                b.due("law(" + n + ", 0, 1, 0)", x.law(n, 0, 1, 0), -1);
                b.due("law(0, " + n + ", 1, 0)", x.law(0, n, 1, 0), -1);
                b.due("law(0, 0, " + n + ", 0)", x.law(0, 0, n, 0), -1);
                b.due("law(0, 0, 1, " + n + ")", x.law(0, 0, 1, n), -1);
                b.due("rounds(" + n + ", 0)", x.rounds(n, 0), -1);
                b.due("rounds(2, " + n + ")", x.rounds(2, n), -1);
            }
        });
        b.close("Behind refused may(), law(), rounds() (promises 12, 13, 20)");
        refused("laws", x -> {
            for (int n : new int[] {-1, 60, 64, Integer.MIN_VALUE, Integer.MAX_VALUE}) {
                b.due("laws(" + n + ")", x.laws(n), -1);
            }
        });
        refused("laws, nothing walked", State.NOTHING_WALKED, x -> b.due("laws", x.laws(0), -1), y -> { });
        b.close("Behind refused laws() (promise 21)");
        refused("cover, nothing walked", State.NOTHING_WALKED, x -> b.due("cover", x.cover(), -1), y -> { });
        refused("cover, nothing walked", State.NEW, x -> b.due("cover", x.cover(), -1), y -> { });
        b.close("Behind cover(), nothing walked (promise 14)");
    }

    private static void asksOfWhatWasTold() {
        refused("coverAt, lawAt, proofAt, got, count", x -> {
            for (int n : new int[] {-1, 600, Integer.MIN_VALUE, Integer.MAX_VALUE}) {
                b.due("coverAt(" + n + ")", x.coverAt(n), -1);
                b.due("lawAt(" + n + ")", x.lawAt(n), -1);
                b.due("proofAt(" + n + ")", x.proofAt(n), -1);
                b.due("got(" + n + ")", x.got(n), -1);
                b.due("count(" + n + ")", x.count(n), -1);
            }
        });
        b.close("Behind refused coverAt(), lawAt(), proofAt(), got(), count() (promises 15, 22, 30, 33, 34)");
    }

    /* Each call of a PROGRAM, with no such k and no such FUEL. */
    private static void asksOfPrograms() {
        int[][] wrong = {{-1, 4}, {4, 4}, {Integer.MIN_VALUE, 4}, {Integer.MAX_VALUE, 4}, {1, 0}, {1, 41}, {1, -1},
            {1, Integer.MIN_VALUE}, {1, Integer.MAX_VALUE}};
        for (int[] w : wrong) {
            refused("alike", x -> b.due("alike", x.alike(w[0], 1, w[1]) + x.alike(1, w[0], w[1]), -4));
        }
        b.close("Behind a refused alike() (promise 16)");
        for (int[] w : wrong) {
            refused("safe", x -> b.due("safe", x.safe(w[0], w[1]), -1));
        }
        b.close("Behind a refused safe() (promise 17)");
        for (int[] w : wrong) {
            refused("rule", x -> b.due("rule", x.rule(w[0], w[1]), -2));
        }
        b.close("Behind a refused rule() (promise 19)");
        for (int[] w : wrong) {
            refused("hangs", x -> b.due("hangs", x.hangs(w[0], 0, w[1]), -2));
        }
        refused("hangs, no such letter", x -> b.due("hangs", x.hangs(1, -1, 4) + x.hangs(1, 3, 4), -4));
        b.close("Behind a refused hangs() (promise 23)");
        for (int[] w : wrong) {
            refused("reach", x -> b.due("reach", x.reach(w[0], 1, w[1]), -2));
        }
        refused("reach, no such number", x -> b.due("reach", x.reach(1, -1, 4) + x.reach(1, 8, 4), -4));
        b.close("Behind a refused reach() (promise 24)");
        for (int[] w : wrong) {
            refused("mend", x -> b.due("mend", x.mend(w[0], w[1]), -2));
        }
        refused("mend, SIZES too great", State.GREAT_SIZES, x -> b.due("mend", x.mend(2, 4), -2), y -> { });
        b.close("Behind a refused mend() (promise 25)");
        for (int[] w : wrong) {
            refused("run", x -> b.due("run", x.run(w[0], 0, w[1]), -1));
        }
        refused("run, no such ROW", x -> b.due("run", x.run(1, -1, 4) + x.run(1, 4096, 4), -2));
        b.close("Behind a refused run() (promise 32)");
    }

    private static void proofs() {
        refused("holds, no CLAIM", State.NEW, x -> b.due("holds", x.holds(), -2), y -> { });
        b.close("Behind holds() of no CLAIM (promise 28)");
        refused("proof, no CLAIM", State.NEW, x -> b.due("proof", x.proof(), -2), y -> { });
        refused("proof, SIZES too great", State.GREAT_SIZES, x -> b.due("proof", x.proof(), -2), y -> { });
        b.close("Behind a refused proof() (promise 29)");
        refused("check, no CLAIM", State.NEW, x -> b.due("check", Bench.check(x, 100), -2), y -> y.end(0));
        refused("check, SIZES too great", State.GREAT_SIZES, x -> b.due("check", Bench.check(x, 100), -2),
                y -> y.end(0));
        b.close("Behind a refused check(): but that the tape is empty (promise 31)");
        for (int[] bytes : new int[][] {{}, {101}, {2, 100}, {2, 100, 100}, {0, 1, 2, 3}, {255}}) {
            refused("check of what is no PROOF", State.LED, x -> b.due("check", Bench.check(x, bytes) >= 0, true),
                    y -> y.end(0));
        }
        b.close("Behind check() of what is no PROOF: but that the tape is empty (promise 31)");
    }

    private static void manyAtOnce() {
        refused("many", x -> {
            for (int i = 0; i < 4; i++) {
                b.due("walk", x.walk(4, 4) + x.walk(0, 41), -2);
                b.due("run", x.run(0, -1, 4) + x.run(9, 0, 4), -2);
                b.due("sizes", x.sizes(7, 1, 0), false);
                b.due("safe", x.safe(0, 0), -1);
                b.due("mend", x.mend(-1, 1), -2);
                b.due("way", Bench.way(x, -1, 0), Bench.THROWS);
                b.due("end", x.end(-1), false);
                b.due("laws", x.laws(60), -1);
                b.due("alike", x.alike(0, 4, 1), -2);
            }
        });
        b.close("Behind many refused calls, one after the other");
    }
}
