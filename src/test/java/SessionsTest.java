import java.lang.reflect.InvocationTargetException;
import java.lang.reflect.Method;
import java.nio.charset.StandardCharsets;
import java.util.ArrayList;
import java.util.HashMap;
import java.util.List;
import java.util.Map;
import java.util.NoSuchElementException;

/**
 * Long runs of ordinary and of wrong calls, 512 on each object, AllWays beside Twin: what a call answers, what it
 * leaves for later ones, and what it does not touch.
 */
public final class SessionsTest {
    private static final int MOST_CALLS = 512;
    private static final int[] FAR = {-1, -2, 4, 8, 41, 60, 63, 64, 99, 100, 164, 540, 541, 4096, Integer.MIN_VALUE,
        Integer.MAX_VALUE};
    private static final int[][] SMALL = {{2, 1, 0}, {2, 1, 1}, {2, 2, 0}, {2, 1, 2}, {2, 2, 1}, {2, 3, 0}, {3, 1, 0},
        {3, 1, 1}, {3, 2, 0}, {4, 1, 0}, {5, 1, 0}, {6, 1, 0}};
    private static final int[][] GREATER = {{4, 2, 0}, {4, 1, 1}, {2, 2, 2}, {2, 3, 1}, {3, 1, 2}, {3, 3, 0},
        {2, 3, 2}, {5, 1, 1}};
    private static final int[][] WRONG = {{1, 1, 0}, {7, 1, 0}, {3, 0, 0}, {3, 4, 0}, {3, 1, 3}, {3, 1, -1}, {6, 2, 1},
        {5, 3, 0}, {-3, -1, 0}, {Integer.MAX_VALUE, 1, 0}};

    /** Texts that part the ROWS; the numbers in them are changed now and then. */
    private static final String[] PARTING = {"if a<3{b=1;}else{b=a-2;must b#4;}while b>1{b=b-1;h=h+1;}",
        "ask c;must a>c or a=0;h=c;", "ask b;c=a/b;ask d;must d=0;", "b=4/a;cell[a]=b;must cell[a]=b;h=b;",
        "while a#0{a=a+1;if a=3{end;}}h=2;", "proc p{b=b+1;if b>a{must b<6;}}proc q{call p;call p;}call q;h=b;",
        "must a<3;h=a/2;", "let a#1;if a>1{h=1;}else{if a=0{h=2;}}", "must 3>0;if a=2{must 0>a+2;}",
        "cell[1]=a;cell[2]=b;while cell[1]>cell[2]{cell[1]=cell[1]-1;h=h+1;}", "h=a*b+c;if h=2{let b=c;end;}",
        "proc s{if a>b{c=a;}else{c=b;}}call s;must c<3 or a=b;b=c;call s;h=7/c;",
        "while a<3 and b<3{a=a+1;while b<a{b=b+1;}}let h=0;", "if a=1{end;}if a=2{b=1/0;}if a=3{let 1=2;}h=3;",
        "ask d;ask e;if d=e{h=a;}else{must d<e;h=d-e;}", "if a>2 or b=1{d=5;}else{e=5;}if a<b{f=1;}else{g=1;}"};

    private static final Bench b = new Bench();
    private static final Map<String, Method> FACE = methods(AllWays.class);
    private static final Map<String, Method> TOLD_AGAIN = methods(Twin.class);
    private static Texts t = new Texts(20261120);

    private final AllWays x = new AllWays();
    private final Twin y = new Twin();
    private final String title;
    private final List<String> calls = new ArrayList<>();
    private boolean parted = false;

    private SessionsTest(String title) {
        this.title = title;
    }

    public static void main(String[] args) {
        int factor = args.length > 0 ? Integer.parseInt(args[0]) : 1;
        if (args.length > 1) {
            t = new Texts(Long.parseLong(args[1]));
        }
        for (int i = 0; i < 24 * factor; i++) {
            new SessionsTest("run " + i).anyCalls();
        }
        b.close("promises 1 to 34: 512 calls of all kinds on one object");
        for (int i = 0; i < 12 * factor; i++) {
            new SessionsTest("changing run " + i).changes();
        }
        b.close("promises 1 to 34: all that can be asked again behind each change");
        b.finish();
    }

    private static Map<String, Method> methods(Class<?> c) {
        Map<String, Method> found = new HashMap<>();
        for (Method method : c.getMethods()) {
            if (method.getDeclaringClass() == c) {
                found.put(method.getName(), method);
            }
        }
        return found;
    }

    // ---- one call of both --------------------------------------------------------------------------------------

    private boolean isOver() {
        return parted || calls.size() >= MOST_CALLS;
    }

    private int ask(String name, int... args) {
        if (isOver()) {
            return 0;
        }
        Integer[] given = new Integer[args.length];
        StringBuilder call = new StringBuilder(name).append('(');
        for (int i = 0; i < args.length; i++) {
            given[i] = args[i];
            call.append(i > 0 ? ", " : "").append(args[i]);
        }
        calls.add(call.append(')').toString());
        int got = answer(FACE.get(name), x, given);
        int due = answer(TOLD_AGAIN.get(name), y, given);
        b.due(title + ", call " + calls.size() + ": " + call, got, due);
        if (got != due) {
            parted = true;
            System.out.println("  the calls: " + String.join("; ", calls));
        }
        return due;
    }

    private static int answer(Method method, Object object, Integer[] args) {
        try {
            Object told = method.invoke(object, (Object[]) args);
            return told instanceof Boolean ? (Boolean) told ? 1 : 0 : (Integer) told;
        } catch (InvocationTargetException e) {
            if (e.getCause().getClass() == NoSuchElementException.class) {
                return Bench.THROWS;
            }
            throw new IllegalStateException(method + " threw " + e.getCause(), e.getCause());
        } catch (IllegalAccessException e) {
            throw new IllegalStateException(e);
        }
    }

    // ---- arguments, most of them as told -----------------------------------------------------------------------

    private static int far() {
        return FAR[t.random(FAR.length)];
    }

    private static int oneOf(int many) {
        return t.chance(94) ? t.random(many) : far();
    }

    private static int fuel() {
        return t.chance(94) ? t.chance(50) ? 40 : 1 + t.random(40) : t.chance(50) ? 0 : far();
    }

    private int rows() {
        return 1 << (y.count(0) * (y.count(1) + y.count(2)));
    }

    private int numbers() {
        return 1 << y.count(0);
    }

    // ---- texts -------------------------------------------------------------------------------------------------

    private void lay(String text) {
        byte[] bytes = text.getBytes(StandardCharsets.ISO_8859_1);
        ask("end", 0);
        for (int i = 0; i < bytes.length; i += 20) {
            ask("feed", four(bytes, i), four(bytes, i + 4), four(bytes, i + 8), four(bytes, i + 12),
                    four(bytes, i + 16));
        }
        ask("end", bytes.length);
    }

    private static int four(byte[] bytes, int at) {
        int number = 0;
        for (int i = at; i < at + 4; i++) {
            number = number << 8 | (i < bytes.length ? bytes[i] & 255 : 0);
        }
        return number;
    }

    private static String program() {
        if (t.chance(55)) {
            return parting();
        }
        int longest = t.chance(90) ? 140 : 500;
        String text = t.fineProgram();
        while (text.length() > longest) {
            text = t.fineProgram();
        }
        return text;
    }

    private static String parting() {
        StringBuilder s = new StringBuilder(PARTING[t.random(PARTING.length)]);
        for (int i = 0; i < s.length(); i++) {
            if (Character.isDigit(s.charAt(i)) && t.chance(15)) {
                s.setCharAt(i, (char) ('0' + t.random(10)));
            }
        }
        return s.toString();
    }

    private void newProgram() {
        String text = program();
        boolean isWrong = t.chance(20);
        lay(isWrong ? t.mutated(text) : text);
        if (t.chance(5)) {
            ask("feed", 0x20202020, 0x683d313b, 0x20202020, 0x0a202020, 0x3b3b3b3b);
            ask("end", y.count(3) - t.random(5));
        }
        ask("program", oneOf(4));
        if (isWrong || t.chance(30)) {
            ask("fault");
        }
    }

    private void newClaim() {
        t.namesUsed = 1 + t.random(3);
        String text = t.chance(50) ? t.name() + "<" + t.number() + " and " + t.anyClaim() : t.anyClaim();
        if (text.length() < 160) {
            boolean isWrong = t.chance(15);
            lay(isWrong ? t.mutated(text) : text);
            ask("claim");
            ask("fault");
        }
    }

    private void newSizes() {
        int[] sizes = t.chance(10) ? WRONG[t.random(WRONG.length)] : t.chance(85) ? SMALL[t.random(SMALL.length)]
                : GREATER[t.random(GREATER.length)];
        ask("sizes", sizes[0], sizes[1], sizes[2]);
    }

    // ---- PROOFS ------------------------------------------------------------------------------------------------

    private void someCheck() {
        StringBuilder bytes = new StringBuilder();
        if (t.chance(60)) {
            for (int k = 0; k < 100 && y.proofAt(k) != -1; k++) {
                bytes.append((char) y.proofAt(k));
            }
            if (bytes.length() > 0 && t.chance(50)) {
                int at = t.random(bytes.length());
                bytes.setCharAt(at, t.chance(50) ? (char) t.random(13) : (char) (99 + t.random(5)));
            }
        }
        if (bytes.length() == 0) {
            for (int i = t.random(8); i >= 0; i--) {
                bytes.append(t.chance(60) ? (char) t.random(9) : (char) (100 + t.random(3)));
            }
        }
        lay(bytes.toString());
        ask("check");
    }

    // ---- all that can be asked ---------------------------------------------------------------------------------

    private void askOfTheWalk() {
        int step = oneOf(10);
        switch (t.random(9)) {
            case 0:
                ask("way", oneOf(5), oneOf(6));
                break;
            case 1:
                ask("went", oneOf(5), oneOf(4));
                break;
            case 2:
                ask("along", oneOf(rows()));
                break;
            case 3:
                ask("least", oneOf(6), t.chance(50) ? -1 : step);
                break;
            case 4:
                ask("may", step, oneOf(8), oneOf(3));
                break;
            case 5:
                ask("law", step, oneOf(8), oneOf(4), t.chance(50) ? oneOf(8) : 100 + oneOf(numbers()));
                break;
            case 6:
                ask("laws", step);
                ask("lawAt", oneOf(28));
                break;
            case 7:
                ask("rounds", step, oneOf(2));
                break;
            default:
                ask("cover");
                ask("coverAt", oneOf(3));
        }
    }

    private void askOfPrograms() {
        switch (t.random(8)) {
            case 0:
                ask("alike", oneOf(4), oneOf(4), fuel());
                break;
            case 1:
                ask("safe", oneOf(4), fuel());
                ask("unsafe");
                break;
            case 2:
                ask("rule", oneOf(4), fuel());
                break;
            case 3:
                ask("hangs", oneOf(4), oneOf(y.count(1)), fuel());
                break;
            case 4:
                ask("reach", oneOf(4), oneOf(numbers()), fuel());
                break;
            case 5:
                ask("mend", oneOf(4), fuel());
                ask("mended");
                break;
            default:
                ask("run", oneOf(4), oneOf(rows()), fuel());
                ask("got", oneOf(17));
                ask("got", 16);
        }
    }

    private void askAgain() {
        switch (t.random(9)) {
            case 0:
                ask("coverAt", oneOf(2));
                break;
            case 1:
                ask("unsafe");
                break;
            case 2:
                ask("lawAt", oneOf(28));
                break;
            case 3:
                ask("mended");
                break;
            case 4:
                ask("proofAt", oneOf(5));
                break;
            case 5:
                ask("got", oneOf(17));
                break;
            case 6:
                ask("fault");
                break;
            case 7:
                ask("count", oneOf(4));
                break;
            default:
                ask("end", oneOf(21));
        }
    }

    private void askOfTheClaim() {
        ask("holds");
        ask("proof");
        ask("proofAt", oneOf(6));
    }

    private void anyCall() {
        int kind = t.random(100);
        if (kind < 5) {
            newProgram();
        } else if (kind < 8) {
            newClaim();
        } else if (kind < 10) {
            newSizes();
        } else if (kind < 13) {
            someCheck();
        } else if (kind < 22) {
            ask("walk", oneOf(4), fuel());
        } else if (kind < 60) {
            askOfTheWalk();
        } else if (kind < 78) {
            askOfPrograms();
        } else if (kind < 95) {
            askAgain();
        } else {
            askOfTheClaim();
        }
    }

    private void anyCalls() {
        while (!isOver()) {
            anyCall();
        }
    }

    /* What was told last, one by one: none of it may change by a call that is not its own. */
    private void askAllAgain() {
        for (int k = 0; k < 2; k++) {
            ask("coverAt", k);
            ask("lawAt", 3 * k);
            ask("proofAt", k);
            ask("got", 7 + 9 * k);
            ask("way", k, 4);
            ask("went", k, 0);
            ask("rounds", 2 * k, 1);
            ask("may", k, 1, 0);
        }
        ask("unsafe");
        ask("mended");
        ask("fault");
        ask("count", 3);
        ask("along", rows() - 1);
        ask("least", 0, -1);
        ask("law", 1, 0, 3, 1);
        ask("run", 2, 1, 40);
        ask("holds");
    }

    private void changes() {
        for (int k = 0; k < 4; k++) {
            lay(program());
            ask("program", k);
        }
        while (!isOver()) {
            int kind = t.random(10);
            if (kind < 2) {
                newProgram();
            } else if (kind < 3) {
                newClaim();
            } else if (kind < 4) {
                newSizes();
            } else if (kind < 5) {
                askOfTheClaim();
            } else if (kind < 6) {
                someCheck();
            } else if (kind < 8) {
                ask("walk", oneOf(4), fuel());
                ask("cover");
                ask("laws", oneOf(4));
            } else {
                askOfPrograms();
            }
            askAllAgain();
        }
    }
}
