import java.nio.charset.StandardCharsets;
import java.util.Arrays;

/** What the tests share: texts put on the tape, and a count of what held. */
final class Bench {
    private int failures = 0;
    private int checks = 0;
    private int failuresAtStart = 0;
    private int failedTests = 0;
    private int tests = 0;

    void due(String what, long got, long want) {
        checks++;
        if (got != want) {
            failures++;
            System.out.println("  " + what + " answered " + got + ", due is " + want);
        }
    }

    void due(String what, boolean got, boolean want) {
        due(what, got ? 1 : 0, want ? 1 : 0);
    }

    /** Closes a test: all checks since the last one count for it. */
    void close(String test) {
        tests++;
        boolean fine = failures == failuresAtStart && checks > 0;
        System.out.println((fine ? "ok " : "FAILED ") + test);
        if (!fine) {
            failedTests++;
        }
        failuresAtStart = failures;
        checks = 0;
    }

    void finish() {
        if (failedTests > 0 || tests == 0) {
            System.exit(1);
        }
    }

    static void tape(AllWays ways, String text) {
        tape(ways, text.getBytes(StandardCharsets.ISO_8859_1));
    }

    /** Lays bytes on an emptied tape; the feed's own surplus is cut off again. */
    static void tape(AllWays ways, byte[] bytes) {
        ways.end(0);
        byte[] padded = Arrays.copyOf(bytes, (bytes.length + 19) / 20 * 20);
        for (int i = 0; i < padded.length; i += 20) {
            int told = ways.feed(four(padded, i), four(padded, i + 4), four(padded, i + 8), four(padded, i + 12),
                    four(padded, i + 16));
            if (told != i + 20) {
                throw new IllegalStateException("feed told " + told);
            }
        }
        if (!ways.end(bytes.length)) {
            throw new IllegalStateException("end(" + bytes.length + ")");
        }
    }

    private static int four(byte[] bytes, int at) {
        return (bytes[at] & 255) << 24 | (bytes[at + 1] & 255) << 16 | (bytes[at + 2] & 255) << 8
                | (bytes[at + 3] & 255);
    }

    static int program(AllWays ways, int k, String text) {
        tape(ways, text);
        return ways.program(k);
    }

    static int claim(AllWays ways, String text) {
        tape(ways, text);
        return ways.claim();
    }

    static int check(AllWays ways, int... bytes) {
        byte[] proof = new byte[bytes.length];
        for (int i = 0; i < bytes.length; i++) {
            proof[i] = (byte) bytes[i];
        }
        tape(ways, proof);
        return ways.check();
    }

    /** way(), with 1000000 for the exception that the document names. */
    static int way(AllWays ways, int i, int what) {
        try {
            return ways.way(i, what);
        } catch (java.util.NoSuchElementException e) {
            return 1000000;
        }
    }

    static String times(String part, int times) {
        return part.repeat(Math.max(0, times));
    }
}
