import java.nio.charset.StandardCharsets;
import java.util.ArrayList;
import java.util.HashMap;
import java.util.HashSet;
import java.util.List;
import java.util.NoSuchElementException;
import java.util.Set;
import java.util.TreeSet;

/**
 * The face told a second time over Model, with the same names: what a call answers, what it leaves for later ones, and
 * what it does not touch. Each question is worked out anew from what the document says it hangs on.
 */
final class Twin {
    private final Model model = new Model();
    private String tape = "";
    private final String[] programs = {"", "", "", ""};
    private String claim = null;
    private int fault = 0;
    private Model.Tree walkedTree = null;
    private List<Model.Run> walkedRuns = null;
    private List<List<Integer>> walkedWays = null;
    private List<Integer> covering = new ArrayList<>();
    private List<Integer> lawsTold = new ArrayList<>();
    private List<Integer> proofTold = new ArrayList<>();
    private int unsafeTold = -1;
    private int mendedTold = -1;
    private Model.Run lastRun = null;

    // ---- tape and texts ----------------------------------------------------------------------------------------

    public int feed(int a, int b, int c, int d, int e) {
        if (tape.length() + 20 > 540) {
            return -1;
        }
        for (int number : new int[] {a, b, c, d, e}) {
            byte[] four = {(byte) (number >> 24), (byte) (number >> 16), (byte) (number >> 8), (byte) number};
            tape += new String(four, StandardCharsets.ISO_8859_1);
        }
        return tape.length();
    }

    public boolean end(int n) {
        if (n < 0 || n > tape.length()) {
            return false;
        }
        tape = tape.substring(0, n);
        return true;
    }

    private String taken() {
        String text = tape;
        tape = "";
        return text;
    }

    public int program(int k) {
        String text = taken();
        if (!isProgram(k)) {
            return -1000;
        }
        Model.Reading reading = Model.read(text, false);
        fault = reading.kind;
        if (fault != 0) {
            return -1 - reading.place;
        }
        programs[k] = text;
        return reading.steps;
    }

    public int claim() {
        String text = taken();
        Model.Reading reading = Model.read(text, true);
        fault = reading.kind;
        if (fault != 0) {
            return -1 - reading.place;
        }
        claim = text;
        return reading.tests;
    }

    public int fault() {
        return fault;
    }

    public boolean sizes(int bits, int letters, int answers) {
        boolean fine = bits >= 2 && bits <= 6 && letters >= 1 && letters <= 3 && answers >= 0 && answers <= 2
                && bits * (letters + answers) <= 12;
        if (fine) {
            model.bits = bits;
            model.letters = letters;
            model.answers = answers;
            walkedRuns = null;
        }
        return fine;
    }

    public int count(int what) {
        switch (what) {
            case 0:
                return model.bits;
            case 1:
                return model.letters;
            case 2:
                return model.answers;
            case 3:
                return tape.length();
            default:
                return -1;
        }
    }

    private static boolean isProgram(int k) {
        return k >= 0 && k <= 3;
    }

    private static boolean isAsked(int k, int fuel) {
        return isProgram(k) && fuel >= 1 && fuel <= 40;
    }

    private Model.Tree tree(int k) {
        return Model.program(programs[k]);
    }

    private List<Model.Run> runs(int k, int fuel) {
        return model.runs(tree(k), fuel);
    }

    // ---- the latest walk ---------------------------------------------------------------------------------------

    public int walk(int k, int fuel) {
        if (!isAsked(k, fuel)) {
            return -1;
        }
        walkedTree = tree(k);
        walkedRuns = runs(k, fuel);
        walkedWays = Model.ways(walkedRuns);
        return walkedWays.size();
    }

    private boolean isWay(int i) {
        return walkedRuns != null && i >= 0 && i < walkedWays.size();
    }

    public int way(int i, int what) {
        if (!isWay(i) || what < 0 || what > 5) {
            throw new NoSuchElementException();
        }
        List<Integer> rows = walkedWays.get(i);
        Model.Run run = walkedRuns.get(rows.get(0));
        return new int[] {run.end, run.step, run.decisions, rows.size(), rows.get(0), run.begun}[what];
    }

    public int went(int i, int d) {
        if (!isWay(i) || d < 0) {
            return -1;
        }
        List<Integer> went = new ArrayList<>();
        for (Model.Event event : walkedRuns.get(walkedWays.get(i).get(0)).events) {
            if (event.kind.equals("yes") || event.kind.equals("no")) {
                went.add(event.kind.equals("yes") ? 1 : 0);
            }
        }
        return d < went.size() ? went.get(d) : -1;
    }

    public int along(int row) {
        for (int i = 0; isWay(i); i++) {
            if (walkedWays.get(i).contains(row)) {
                return i;
            }
        }
        return -1;
    }

    public int least(int end, int step) {
        for (int row = 0; walkedRuns != null && row < walkedRuns.size(); row++) {
            Model.Run run = walkedRuns.get(row);
            if (run.end == end && (step == -1 || run.step == step)) {
                return row;
            }
        }
        return -1;
    }

    private List<int[]> states(int step) {
        return walkedRuns == null ? new ArrayList<>() : Model.states(walkedRuns, step);
    }

    private static boolean isName(int name) {
        return name >= 0 && name <= 7;
    }

    public int may(int step, int name, int what) {
        if (!isName(name) || what < 0 || what > 2) {
            return -1;
        }
        TreeSet<Integer> numbers = new TreeSet<>();
        for (int[] state : states(step)) {
            numbers.add(state[name]);
        }
        if (numbers.isEmpty()) {
            return -1;
        }
        return what == 0 ? numbers.size() : what == 1 ? numbers.first() : numbers.last();
    }

    public int law(int step, int name, int r, int other) {
        boolean isNumber = other >= 100 && other < 100 + model.numbers();
        if (!isName(name) || r < 0 || r > 3 || !isName(other) && !isNumber) {
            return -1;
        }
        List<int[]> states = states(step);
        if (states.isEmpty()) {
            return -1;
        }
        for (int[] state : states) {
            if (!Model.holds(state[name], r, isNumber ? other - 100 : state[other])) {
                return 0;
            }
        }
        return 1;
    }

    public int laws(int step) {
        if (states(step).isEmpty()) {
            return -1;
        }
        lawsTold = new ArrayList<>();
        for (int name = 0; name < 8; name++) {
            for (int other = name + 1; other < 8; other++) {
                for (int r = 0; r < 3; r++) {
                    if (law(step, name, r, other) == 1) {
                        lawsTold.add(100 * name + 10 * other + r);
                    }
                }
            }
        }
        return lawsTold.size();
    }

    public int lawAt(int k) {
        return at(lawsTold, k);
    }

    private static int at(List<Integer> list, int k) {
        return k >= 0 && k < list.size() ? list.get(k) : -1;
    }

    public int cover() {
        List<Integer> found = walkedRuns == null ? null : Model.cover(walkedRuns);
        if (found == null) {
            return -1;
        }
        covering = found;
        return found.size();
    }

    public int coverAt(int k) {
        return at(covering, k);
    }

    public int rounds(int step, int what) {
        boolean isWhile = walkedRuns != null && walkedTree.steps.containsKey(step)
                && walkedTree.steps.get(step).kind.equals("while");
        TreeSet<Integer> rounds = new TreeSet<>();
        for (int row = 0; isWhile && row < walkedRuns.size(); row++) {
            if (walkedRuns.get(row).end != 4) {
                rounds.add(walkedRuns.get(row).rounds.getOrDefault(step, 0));
            }
        }
        if (rounds.isEmpty() || what < 0 || what > 1) {
            return -1;
        }
        return what == 0 ? rounds.first() : rounds.last();
    }

    // ---- PROGRAMS ----------------------------------------------------------------------------------------------

    public int alike(int j, int k, int fuel) {
        if (!isAsked(j, fuel) || !isAsked(k, fuel)) {
            return -2;
        }
        List<Model.Run> one = runs(j, fuel);
        List<Model.Run> other = runs(k, fuel);
        for (int row = 0; row < one.size(); row++) {
            if (!one.get(row).endsLike(other.get(row))) {
                return row;
            }
        }
        return -1;
    }

    private int letterRows() {
        return 1 << (model.bits * model.letters);
    }

    public int safe(int k, int fuel) {
        if (!isAsked(k, fuel)) {
            return -1;
        }
        TreeSet<Integer> unsafe = new TreeSet<>();
        List<Model.Run> runs = runs(k, fuel);
        for (int row = 0; row < runs.size(); row++) {
            if (runs.get(row).harmed()) {
                unsafe.add(row % letterRows());
            }
        }
        unsafeTold = unsafe.isEmpty() ? -1 : unsafe.first();
        return letterRows() - unsafe.size();
    }

    public int unsafe() {
        return unsafeTold;
    }

    public int rule(int k, int fuel) {
        if (!isAsked(k, fuel)) {
            return -2;
        }
        Model.Tree tree = tree(k);
        for (int answer = 0; answer < model.numbers(); answer++) {
            boolean fine = true;
            for (int letters = 0; letters < letterRows(); letters++) {
                fine = fine && !model.runRuled(tree, letters, fuel, answer).harmed();
            }
            if (fine) {
                return answer;
            }
        }
        return -1;
    }

    public int hangs(int k, int l, int fuel) {
        return isAsked(k, fuel) && l >= 0 && l < model.letters ? model.hangs(runs(k, fuel), l) : -2;
    }

    public int reach(int k, int v, int fuel) {
        if (!isAsked(k, fuel) || v < 0 || v >= model.numbers()) {
            return -2;
        }
        List<Model.Run> runs = runs(k, fuel);
        for (int row = 0; row < runs.size(); row++) {
            if (runs.get(row).end == 0 && runs.get(row).names[7] == v) {
                return row;
            }
        }
        return -1;
    }

    public int mend(int k, int fuel) {
        if (!isAsked(k, fuel) || model.rowBits() > 8) {
            return -2;
        }
        int[] found = model.mend(tree(k), fuel);
        if (found == null) {
            return -1;
        }
        mendedTold = found[1];
        return found[0];
    }

    public int mended() {
        return mendedTold;
    }

    public int run(int k, int row, int fuel) {
        if (!isAsked(k, fuel) || row < 0 || row >= model.rows()) {
            return -1;
        }
        lastRun = model.run(tree(k), row, fuel);
        return lastRun.end;
    }

    public int got(int n) {
        if (lastRun == null || n < 0 || n > 16) {
            return -1;
        }
        return n < 8 ? lastRun.names[n] : n < 16 ? lastRun.cells[n - 8] : lastRun.step;
    }

    // ---- the CLAIM ---------------------------------------------------------------------------------------------

    public int holds() {
        if (claim == null) {
            return -2;
        }
        Model.Tree tests = Model.claim(claim);
        for (int row = 0; row < model.rows(); row++) {
            if (model.claimHolds(tests, row)) {
                return row;
            }
        }
        return -1;
    }

    private Set<Integer> allRows() {
        Set<Integer> all = new TreeSet<>();
        for (int row = 0; row < model.rows(); row++) {
            all.add(row);
        }
        return all;
    }

    public int proof() {
        if (claim == null || model.rowBits() > 8) {
            return -2;
        }
        List<Integer> found = null;
        if (holds() == -1) {
            found = model.proof(Model.claim(claim), allRows(), new HashSet<>(), new HashMap<>());
        }
        if (found == null) {
            return -1;
        }
        proofTold = found;
        return found.size();
    }

    public int proofAt(int k) {
        return at(proofTold, k);
    }

    public int check() {
        byte[] bytes = taken().getBytes(StandardCharsets.ISO_8859_1);
        if (claim == null || model.rowBits() > 8) {
            return -2;
        }
        int[] given = new int[bytes.length];
        for (int i = 0; i < given.length; i++) {
            given[i] = bytes[i] & 255;
        }
        int behind = model.check(Model.claim(claim), given, 0, allRows(), new HashSet<>());
        return behind < 0 ? -1 - behind : behind < given.length ? behind : -1;
    }
}
