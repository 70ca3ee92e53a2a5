import java.nio.charset.StandardCharsets;
import java.util.Arrays;

/** What the tests share: texts put on the tape, answers that are due, and a count of what held. */
final class Bench {
    /** What way() answers here in place of the exception that the document names. */
    static final int THROWS = 1000000;

    private int failures = 0;
    private int checks = 0;
    private int failuresAtStart = 0;
    private int failedTests = 0;
    private int tests = 0;

    void due(String what, long got, long want) {
        checks++;
        if (got != want) {
            failures++;
            System.out.println("  " + what + " answered " + got + ", due is " + want);
        }
    }

    void due(String what, boolean got, boolean want) {
        due(what, got ? 1 : 0, want ? 1 : 0);
    }

    void due(String what, String got, String want) {
        if (!got.equals(want)) {
            System.out.println("  answered " + got);
            System.out.println("  due is   " + want);
        }
        due(what + " is as due", got.equals(want), true);
    }

    /** Closes a test: all checks since the last one count for it. */
    void close(String test) {
        tests++;
        boolean fine = failures == failuresAtStart && checks > 0;
        System.out.println((fine ? "ok " : "FAILED ") + test);
        if (!fine) {
            failedTests++;
        }
        failuresAtStart = failures;
        checks = 0;
    }

    void finish() {
        if (failedTests > 0 || tests == 0) {
            System.exit(1);
        }
    }

    // ---- objects and tapes -------------------------------------------------------------------------------------

    /** A new object with a text as PROGRAM 0. */
    static AllWays with(String text) {
        AllWays x = new AllWays();
        int told = program(x, 0, text);
        if (told < 0) {
            throw new IllegalStateException("program told " + told + ": " + text);
        }
        return x;
    }

    static AllWays with(String text, int bits, int letters, int answers) {
        AllWays x = with(text);
        if (!x.sizes(bits, letters, answers)) {
            throw new IllegalStateException("sizes");
        }
        return x;
    }

    /** A new object whose PROGRAM 0 is walked. */
    static AllWays walked(String text, int fuel) {
        AllWays x = with(text);
        x.walk(0, fuel);
        return x;
    }

    static void tape(AllWays ways, String text) {
        tape(ways, text.getBytes(StandardCharsets.ISO_8859_1));
    }

    /** Lays bytes on an emptied tape; the feed's own surplus is cut off again. */
    static void tape(AllWays ways, byte[] bytes) {
        ways.end(0);
        byte[] padded = Arrays.copyOf(bytes, (bytes.length + 19) / 20 * 20);
        for (int i = 0; i < padded.length; i += 20) {
            int told = ways.feed(four(padded, i), four(padded, i + 4), four(padded, i + 8), four(padded, i + 12),
                    four(padded, i + 16));
            if (told != i + 20) {
                throw new IllegalStateException("feed told " + told);
            }
        }
        if (!ways.end(bytes.length)) {
            throw new IllegalStateException("end(" + bytes.length + ")");
        }
    }

    private static int four(byte[] bytes, int at) {
        return (bytes[at] & 255) << 24 | (bytes[at + 1] & 255) << 16 | (bytes[at + 2] & 255) << 8
                | (bytes[at + 3] & 255);
    }

    static int program(AllWays ways, int k, String text) {
        tape(ways, text);
        return ways.program(k);
    }

    static int claim(AllWays ways, String text) {
        tape(ways, text);
        return ways.claim();
    }

    static int check(AllWays ways, int... bytes) {
        byte[] proof = new byte[bytes.length];
        for (int i = 0; i < bytes.length; i++) {
            proof[i] = (byte) bytes[i];
        }
        tape(ways, proof);
        return ways.check();
    }

    /** way(), with THROWS for the exception that the document names. */
    static int way(AllWays ways, int i, int what) {
        try {
            return ways.way(i, what);
        } catch (java.util.NoSuchElementException e) {
            return THROWS;
        }
    }

    static String times(String part, int times) {
        return part.repeat(Math.max(0, times));
    }

    // ---- answers that are due ----------------------------------------------------------------------------------

    void programDue(String text, int told, int fault) {
        AllWays x = new AllWays();
        due("program of " + text, program(x, 0, text), told);
        due("fault of " + text, x.fault(), fault);
        due("tape behind it", x.count(3), 0);
    }

    void faultDue(String text, int place, int fault) {
        programDue(text, -1 - place, fault);
    }

    void claimDue(String text, int told, int fault) {
        AllWays x = new AllWays();
        due("claim of " + text, claim(x, text), told);
        due("fault of " + text, x.fault(), fault);
        due("the tape is empty then", x.count(3), 0);
    }

    void claimFaultDue(String text, int place, int fault) {
        claimDue(text, -1 - place, fault);
    }

    /** How a ROW ends by PROGRAM 0, and at which STEP. */
    void endDue(AllWays x, int row, int fuel, int end, int step) {
        due("run(0, " + row + ", " + fuel + ")", x.run(0, row, fuel), end);
        due("STEP of run(0, " + row + ", " + fuel + ")", x.got(16), step);
    }

    /** How ROW 0 ends by a text, and at which STEP. */
    void endDue(String text, int end, int step) {
        AllWays x = with(text);
        due("end of " + text, x.run(0, 0, 40), end);
        due("STEP of the end of " + text, x.got(16), step);
    }

    /** What NAME h is behind a text that ends by 0. */
    void resultDue(String text, int bits, int h) {
        AllWays x = with(text, bits, 1, 0);
        due("end of " + text + " with B " + bits, x.run(0, 0, 40), 0);
        due("h of " + text + " with B " + bits, x.got(7), h);
    }

    void wayDue(AllWays x, int i, int... all) {
        for (int what = 0; what < 6; what++) {
            due("way(" + i + ", " + what + ")", way(x, i, what), all[what]);
        }
    }

    void lawDue(AllWays x, int step, int name, String rs, int other) {
        for (int r = 0; r < 4; r++) {
            due("law(" + step + ", " + name + ", " + r + ", " + other + ")", x.law(step, name, r, other),
                    rs.charAt(r) - '0');
        }
    }

    void mayDue(AllWays x, int step, int name, int many, int least, int greatest) {
        due("may(" + step + ", " + name + ", 0)", x.may(step, name, 0), many);
        due("may(" + step + ", " + name + ", 1)", x.may(step, name, 1), least);
        due("may(" + step + ", " + name + ", 2)", x.may(step, name, 2), greatest);
    }

    void coverDue(AllWays x, int... rows) {
        due("cover()", x.cover(), rows.length);
        for (int k = 0; k < rows.length; k++) {
            due("coverAt(" + k + ")", x.coverAt(k), rows[k]);
        }
        due("coverAt(" + rows.length + ")", x.coverAt(rows.length), -1);
    }

    void proofDue(AllWays x, int... bytes) {
        due("proof()", x.proof(), bytes.length);
        for (int k = 0; k < bytes.length; k++) {
            due("proofAt(" + k + ")", x.proofAt(k), bytes[k]);
        }
        due("proofAt(" + bytes.length + ")", x.proofAt(bytes.length), -1);
    }
}
