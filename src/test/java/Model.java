import java.util.ArrayList;
import java.util.Arrays;
import java.util.HashMap;
import java.util.HashSet;
import java.util.List;
import java.util.Map;
import java.util.Set;
import java.util.TreeMap;
import java.util.TreeSet;

/**
 * The document told a second time, as plainly as the Java library allows and with no care for speed, so that
 * AllWays can be held against it. Nothing here is shared with the class.
 */
final class Model {
    int bits = 3;
    int letters = 1;
    int answers = 0;

    int rowBits() {
        return bits * (letters + answers);
    }

    int rows() {
        return 1 << rowBits();
    }

    int numbers() {
        return 1 << bits;
    }

    // ---- Term 1: TOKENS and FAULTS, by a grammar's table -------------------------------------------------------

    static final class Token {
        final String kind;
        final int place;
        final int value;

        Token(String kind, int place, int value) {
            this.kind = kind;
            this.place = place;
            this.value = value;
        }
    }

    static final class Reading {
        int kind;
        int place;
        int steps;
        int tests;
        final List<Token> tokens = new ArrayList<>();
    }

    private static final Set<String> KEYWORDS = new HashSet<>(Arrays.asList("proc", "call", "cell", "if", "else",
            "while", "must", "let", "ask", "end", "or", "and"));

    static List<Token> tokens(String text) {
        List<Token> found = new ArrayList<>();
        int at = 0;
        while (true) {
            while (at < text.length() && (text.charAt(at) == ' ' || text.charAt(at) == '\n')) {
                at++;
            }
            if (text.length() > 500 && at >= 500) {
                found.add(new Token("?", 500, 0));
                return found;
            }
            if (at >= text.length()) {
                found.add(new Token("$", text.length(), 0));
                return found;
            }
            int from = at;
            while (at < text.length() && String.valueOf(text.charAt(at)).matches("[a-z0-9]")) {
                at++;
            }
            String word = text.substring(from, at);
            if (word.isEmpty()) {
                String sign = text.substring(at, at + 1);
                at++;
                found.add(new Token(";{}()[]+-*/=<>#".contains(sign) ? sign : "?", from, 0));
            } else if (word.matches("[0-9]{1,3}")) {
                found.add(new Token("NUMBER", from, Integer.parseInt(word)));
            } else if (word.matches("[a-h]")) {
                found.add(new Token("NAME", from, word.charAt(0) - 'a'));
            } else if (word.matches("[p-s]")) {
                found.add(new Token("PROC", from, word.charAt(0) - 'p'));
            } else {
                found.add(new Token(KEYWORDS.contains(word) ? word : "?", from, 0));
            }
        }
    }

    // Of each symbol its productions; one of no symbols comes last and is taken where no other fits.
    private static final Map<String, String[]> GRAMMAR = new HashMap<>();

    static {
        GRAMMAR.put("Text", new String[] {"proc TOLD Block Text", "Steps $"});
        GRAMMAR.put("Claim", new String[] {"Test1 Tests $"});
        GRAMMAR.put("Tests", new String[] {"and Test1 Tests", ""});
        GRAMMAR.put("Test1", new String[] {"Test"});
        GRAMMAR.put("Steps", new String[] {"Step Steps", ""});
        GRAMMAR.put("Block", new String[] {"{ Steps }"});
        GRAMMAR.put("Step", new String[] {"call CALLED ;", "NAME = Sum ;", "cell [ Sum ] = Sum ;", "if Cond Block Else",
            "while Cond Block", "must Cond ;", "let Cond ;", "ask NAME ;", "end ;"});
        GRAMMAR.put("Else", new String[] {"else Block", ""});
        GRAMMAR.put("Cond", new String[] {"All Ors"});
        GRAMMAR.put("Ors", new String[] {"or All Ors", ""});
        GRAMMAR.put("All", new String[] {"Test Ands"});
        GRAMMAR.put("Ands", new String[] {"and Test Ands", ""});
        GRAMMAR.put("Test", new String[] {"Sum R Sum"});
        GRAMMAR.put("R", new String[] {"<", "=", ">", "#"});
        GRAMMAR.put("Sum", new String[] {"Product Sums"});
        GRAMMAR.put("Sums", new String[] {"+ Product Sums", "- Product Sums", ""});
        GRAMMAR.put("Product", new String[] {"Unit Products"});
        GRAMMAR.put("Products", new String[] {"* Unit Products", "/ Unit Products", ""});
        GRAMMAR.put("Unit", new String[] {"NUMBER", "NAME", "cell [ Sum ]", "( Sum )"});
    }

    private static String[] parts(String production) {
        return production.isEmpty() ? new String[0] : production.split(" ");
    }

    private static boolean canBegin(String symbol, String kind) {
        if (!GRAMMAR.containsKey(symbol)) {
            return symbol.equals(kind) || (kind.equals("PROC") && (symbol.equals("TOLD") || symbol.equals("CALLED")));
        }
        for (String production : GRAMMAR.get(symbol)) {
            if (productionCanBegin(production, kind)) {
                return true;
            }
        }
        return false;
    }

    private static boolean canBeNothing(String symbol) {
        return GRAMMAR.containsKey(symbol) && Arrays.asList(GRAMMAR.get(symbol)).contains("");
    }

    private static boolean productionCanBegin(String production, String kind) {
        for (String part : parts(production)) {
            if (canBegin(part, kind)) {
                return true;
            }
            if (!canBeNothing(part)) {
                return false;
            }
        }
        return false;
    }

    static Reading read(String text, boolean isClaim) {
        Reading r = new Reading();
        r.tokens.addAll(tokens(text));
        ArrayList<String> stack = new ArrayList<>();
        stack.add(isClaim ? "Claim" : "Text");
        int units = 0;
        int open = 0;
        Set<Integer> told = new HashSet<>();
        Set<Integer> ended = new HashSet<>();
        int telling = -1;
        for (Token token : r.tokens) {
            boolean tooMany = false;
            String top;
            while (true) {
                top = stack.remove(stack.size() - 1);
                String[] productions = GRAMMAR.get(top);
                if (productions == null) {
                    break;
                }
                String chosen = null;
                for (String production : productions) {
                    if (chosen == null && (production.isEmpty() || productionCanBegin(production, token.kind))) {
                        chosen = production;
                    }
                }
                if (chosen == null) {
                    chosen = productions[productions.length - 1];
                }
                boolean fits = productionCanBegin(chosen, token.kind);
                if (top.equals("Step") && fits) {
                    r.steps++;
                    tooMany |= r.steps > 60;
                }
                if (top.equals("Unit") && fits) {
                    units++;
                    tooMany |= units > 150;
                }
                if (top.equals("Test1") && fits) {
                    r.tests++;
                    tooMany |= r.tests > 20;
                }
                // Behind a PROC's BLOCK the text goes on: it is told with its BLOCK now.
                if (top.equals("Text") && telling >= 0) {
                    ended.add(telling);
                    telling = -1;
                }
                String[] symbols = parts(chosen);
                for (int i = symbols.length - 1; i >= 0; i--) {
                    stack.add(symbols[i]);
                }
            }
            TreeSet<Integer> faults = new TreeSet<>();
            if (!canBegin(top, token.kind)) {
                faults.add(1);
            } else {
                if (token.kind.equals("NUMBER") && token.value > 255) {
                    faults.add(2);
                }
                if ("([{".contains(token.kind)) {
                    open++;
                    tooMany |= open > 10;
                }
                if (")]}".contains(token.kind)) {
                    open--;
                }
                if (tooMany) {
                    faults.add(3);
                }
                if (top.equals("TOLD")) {
                    if (!told.add(token.value)) {
                        faults.add(4);
                    }
                    telling = token.value;
                }
                if (top.equals("CALLED") && !ended.contains(token.value)) {
                    faults.add(4);
                }
            }
            if (!faults.isEmpty()) {
                r.kind = faults.first();
                r.place = token.place;
                return r;
            }
        }
        return r;
    }

    // ---- a text without FAULTS as a tree -----------------------------------------------------------------------

    static final class Node {
        final String kind;
        int value;
        final List<Node> parts = new ArrayList<>();
        List<Node> yes;
        List<Node> no;

        Node(String kind) {
            this.kind = kind;
        }
    }

    static final class Tree {
        final List<Node> main = new ArrayList<>();
        final Map<Integer, List<Node>> procs = new HashMap<>();
        final List<Node> numbers = new ArrayList<>();
        final Map<Integer, Node> steps = new TreeMap<>();
        final List<Node> tests = new ArrayList<>();
    }

    static final class Builder {
        private final List<Token> tokens;
        private int at = 0;
        private final Tree tree = new Tree();

        Builder(List<Token> tokens) {
            this.tokens = tokens;
        }

        private String kind() {
            return tokens.get(at).kind;
        }

        private Token take() {
            return tokens.get(at++);
        }

        Tree program() {
            while (kind().equals("proc")) {
                take();
                int proc = take().value;
                tree.procs.put(proc, block());
            }
            while (!kind().equals("$")) {
                tree.main.add(step());
            }
            return tree;
        }

        Tree claim() {
            tree.tests.add(test());
            while (kind().equals("and")) {
                take();
                tree.tests.add(test());
            }
            return tree;
        }

        private List<Node> block() {
            List<Node> steps = new ArrayList<>();
            take();
            while (!kind().equals("}")) {
                steps.add(step());
            }
            take();
            return steps;
        }

        private Node step() {
            Token first = take();
            Node step = new Node(first.kind.equals("NAME") ? "set" : first.kind);
            step.value = tree.steps.size();
            tree.steps.put(step.value, step);
            switch (first.kind) {
                case "NAME":
                    step.parts.add(leaf(first));
                    take();
                    step.parts.add(sum());
                    break;
                case "cell":
                    take();
                    step.parts.add(sum());
                    take();
                    take();
                    step.parts.add(sum());
                    break;
                case "call":
                case "ask":
                    step.parts.add(leaf(take()));
                    break;
                case "end":
                    break;
                default:
                    step.parts.add(cond());
            }
            if (first.kind.equals("if") || first.kind.equals("while")) {
                step.yes = block();
                if (first.kind.equals("if") && kind().equals("else")) {
                    take();
                    step.no = block();
                }
            } else {
                take();
            }
            return step;
        }

        private Node leaf(Token token) {
            Node leaf = new Node(token.kind);
            leaf.value = token.value;
            return leaf;
        }

        private Node joined(String kind, Node... parts) {
            Node node = new Node(kind);
            node.parts.addAll(Arrays.asList(parts));
            return node;
        }

        private Node cond() {
            Node left = all();
            while (kind().equals("or")) {
                take();
                left = joined("or", left, all());
            }
            return left;
        }

        private Node all() {
            Node left = test();
            while (kind().equals("and")) {
                take();
                left = joined("and", left, test());
            }
            return left;
        }

        private Node test() {
            Node left = sum();
            String relation = take().kind;
            return joined(relation, left, sum());
        }

        private Node sum() {
            Node left = product();
            while (kind().equals("+") || kind().equals("-")) {
                String op = take().kind;
                left = joined(op, left, product());
            }
            return left;
        }

        private Node product() {
            Node left = unit();
            while (kind().equals("*") || kind().equals("/")) {
                String op = take().kind;
                left = joined(op, left, unit());
            }
            return left;
        }

        private Node unit() {
            Token token = take();
            if (token.kind.equals("(")) {
                Node inner = sum();
                take();
                return inner;
            }
            if (token.kind.equals("cell")) {
                take();
                Node inner = sum();
                take();
                return joined("cell", inner);
            }
            Node leaf = leaf(token);
            if (token.kind.equals("NUMBER")) {
                tree.numbers.add(leaf);
            }
            return leaf;
        }
    }

    static Tree program(String text) {
        return new Builder(tokens(text)).program();
    }

    static Tree claim(String text) {
        return new Builder(tokens(text)).claim();
    }

    // ---- Term 2: RUNS and WAYS ---------------------------------------------------------------------------------

    private static final class End extends RuntimeException {
        private static final long serialVersionUID = 1;
        final int end;
        final boolean behindLast;

        End(int end, boolean behindLast) {
            super(null, null, false, false);
            this.end = end;
            this.behindLast = behindLast;
        }
    }

    /** What happens in a RUN, one after the other: "begin", "done", "yes", "no", "end". */
    static final class Event {
        final String kind;
        final int value;

        Event(String kind, int value) {
            this.kind = kind;
            this.value = value;
        }

        boolean like(Event other) {
            return kind.equals(other.kind) && value == other.value;
        }
    }

    static final class Run {
        int end;
        int step = -1;
        int decisions = 0;
        int begun = 0;
        final int[] names = new int[8];
        final int[] cells = new int[8];
        final List<Event> events = new ArrayList<>();
        final List<int[]> namesBegun = new ArrayList<>();
        final List<Integer> stepsBegun = new ArrayList<>();
        final Map<Integer, Integer> rounds = new HashMap<>();

        boolean harmed() {
            return end == 1 || end == 2 || end == 3;
        }

        boolean endsLike(Run other) {
            return end == other.end && (end != 0 || names[7] == other.names[7]);
        }
    }

    private final class Runner {
        final Tree tree;
        final Run run = new Run();
        final int fuel;
        final List<Integer> toCome = new ArrayList<>();
        final int fixed;

        Runner(Tree tree, int row, int fuel, int fixed) {
            this.tree = tree;
            this.fuel = fuel;
            this.fixed = fixed;
            for (int i = 0; i < letters + answers; i++) {
                int number = row / (int) Math.pow(numbers(), i) % numbers();
                if (i < letters) {
                    run.names[i] = number;
                } else {
                    toCome.add(number);
                }
            }
        }

        Run go() {
            try {
                steps(tree.main);
                throw new End(0, true);
            } catch (End end) {
                run.end = end.end;
                if (end.behindLast) {
                    run.step = -1;
                }
                run.events.add(new Event("end", end.end));
            }
            return run;
        }

        private void steps(List<Node> steps) {
            for (Node step : steps) {
                step(step);
            }
        }

        private void begin(Node step) {
            run.step = step.value;
            run.begun++;
            run.events.add(new Event("begin", step.value));
            run.namesBegun.add(run.names.clone());
            run.stepsBegun.add(step.value);
            if (run.begun == 1001) {
                throw new End(5, false);
            }
        }

        private boolean decide(Node step) {
            if (run.decisions == fuel) {
                throw new End(5, false);
            }
            boolean yes = value(step.parts.get(0)) == 1;
            run.decisions++;
            run.events.add(new Event(yes ? "yes" : "no", 0));
            if (yes) {
                run.rounds.merge(step.value, 1, Integer::sum);
            }
            return yes;
        }

        private void step(Node step) {
            begin(step);
            switch (step.kind) {
                case "set":
                    run.names[step.parts.get(0).value] = value(step.parts.get(1));
                    break;
                case "cell": {
                    int place = value(step.parts.get(0));
                    int number = value(step.parts.get(1));
                    if (place > 7) {
                        throw new End(3, false);
                    }
                    run.cells[place] = number;
                    break;
                }
                case "call":
                    steps(tree.procs.get(step.parts.get(0).value));
                    break;
                case "if":
                    if (decide(step)) {
                        steps(step.yes);
                    } else if (step.no != null) {
                        steps(step.no);
                    }
                    break;
                case "while":
                    while (decide(step)) {
                        steps(step.yes);
                        begin(step);
                    }
                    break;
                case "must":
                case "let":
                    if (value(step.parts.get(0)) == 0) {
                        throw new End(step.kind.equals("must") ? 1 : 4, false);
                    }
                    break;
                case "ask":
                    run.names[step.parts.get(0).value] = fixed >= 0 ? fixed : toCome.isEmpty() ? 0 : toCome.remove(0);
                    break;
                default:
                    throw new End(0, false);
            }
            run.events.add(new Event("done", step.value));
        }

        int value(Node node) {
            switch (node.kind) {
                case "NUMBER":
                    return Math.floorMod(node.value, numbers());
                case "NAME":
                    return run.names[node.value];
                case "cell": {
                    int place = value(node.parts.get(0));
                    if (place > 7) {
                        throw new End(3, false);
                    }
                    return run.cells[place];
                }
                default:
                    return joined(node.kind, value(node.parts.get(0)), value(node.parts.get(1)));
            }
        }

        private int joined(String kind, int left, int right) {
            switch (kind) {
                case "+":
                    return Math.floorMod(left + right, numbers());
                case "-":
                    return Math.floorMod(left - right, numbers());
                case "*":
                    return Math.floorMod(left * right, numbers());
                case "/":
                    if (right == 0) {
                        throw new End(2, false);
                    }
                    return left / right;
                case "<":
                    return left < right ? 1 : 0;
                case "=":
                    return left == right ? 1 : 0;
                case ">":
                    return left > right ? 1 : 0;
                case "#":
                    return left != right ? 1 : 0;
                case "and":
                    return Math.min(left, right);
                default:
                    return Math.max(left, right);
            }
        }
    }

    Run run(Tree tree, int row, int fuel) {
        return new Runner(tree, row, fuel, -1).go();
    }

    Run runRuled(Tree tree, int lettersRow, int fuel, int answer) {
        return new Runner(tree, lettersRow, fuel, answer).go();
    }

    List<Run> runs(Tree tree, int fuel) {
        List<Run> all = new ArrayList<>();
        for (int row = 0; row < rows(); row++) {
            all.add(run(tree, row, fuel));
        }
        return all;
    }

    private static int rank(Event event) {
        return event.kind.equals("end") ? event.value : event.kind.equals("yes") ? 10 : 11;
    }

    static int compare(Run one, Run other) {
        for (int i = 0; i < one.events.size() && i < other.events.size(); i++) {
            Event a = one.events.get(i);
            Event b = other.events.get(i);
            if (!a.like(b)) {
                return Integer.compare(rank(a), rank(b));
            }
        }
        return 0;
    }

    /** The WAYS in their ORDER, each as the ROWS that go it, rising. */
    static List<List<Integer>> ways(List<Run> runs) {
        TreeMap<Integer, List<Integer>> found = new TreeMap<>((x, y) -> compare(runs.get(x), runs.get(y)));
        for (int row = 0; row < runs.size(); row++) {
            found.computeIfAbsent(row, r -> new ArrayList<>()).add(row);
        }
        return new ArrayList<>(found.values());
    }

    // ---- Term 3 ------------------------------------------------------------------------------------------------

    /** All names at all times when a STEP is BEGUN, in RUNS that do not end by 4. */
    static List<int[]> states(List<Run> runs, int step) {
        List<int[]> states = new ArrayList<>();
        for (Run run : runs) {
            for (int i = 0; run.end != 4 && i < run.stepsBegun.size(); i++) {
                if (run.stepsBegun.get(i) == step) {
                    states.add(run.namesBegun.get(i));
                }
            }
        }
        return states;
    }

    static boolean holds(int left, int r, int right) {
        switch (r) {
            case 0:
                return left < right;
            case 1:
                return left == right;
            case 2:
                return left > right;
            default:
                return left != right;
        }
    }

    static List<Integer> cover(List<Run> runs) {
        List<Set<Integer>> begun = new ArrayList<>();
        Set<Integer> all = new HashSet<>();
        for (Run run : runs) {
            begun.add(run.end == 4 ? new HashSet<>() : new HashSet<>(run.stepsBegun));
            all.addAll(begun.get(begun.size() - 1));
        }
        if (all.isEmpty()) {
            return new ArrayList<>();
        }
        for (int i = 0; i < runs.size(); i++) {
            if (runs.get(i).end != 4 && begun.get(i).containsAll(all)) {
                return Arrays.asList(i);
            }
        }
        for (int i = 0; i < runs.size(); i++) {
            Set<Integer> missing = new HashSet<>(all);
            missing.removeAll(begun.get(i));
            for (int j = i + 1; j < runs.size() && runs.get(i).end != 4; j++) {
                if (runs.get(j).end != 4 && begun.get(j).containsAll(missing)) {
                    return Arrays.asList(i, j);
                }
            }
        }
        return null;
    }

    /** The NUMBER and what it is then; null if there is none or no need. */
    int[] mend(Tree tree, int fuel) {
        if (fine(tree, fuel)) {
            return null;
        }
        for (int number = 0; number < Math.min(20, tree.numbers.size()); number++) {
            Node node = tree.numbers.get(number);
            int old = node.value;
            for (int value = 0; value < numbers(); value++) {
                node.value = value;
                boolean fine = fine(tree, fuel);
                node.value = old;
                if (fine) {
                    return new int[] {number, value};
                }
            }
        }
        return null;
    }

    private boolean fine(Tree tree, int fuel) {
        for (int row = 0; row < rows(); row++) {
            if (run(tree, row, fuel).harmed()) {
                return false;
            }
        }
        return true;
    }

    /** The least of all ROWS that have one, unlike in the letter alone, that ends unlike. */
    int hangs(List<Run> runs, int letter) {
        int unit = (int) Math.pow(numbers(), letter);
        for (int row = 0; row < rows(); row++) {
            int number = row / unit % numbers();
            for (int other = 0; other < numbers(); other++) {
                if (!runs.get(row).endsLike(runs.get(row + (other - number) * unit))) {
                    return row;
                }
            }
        }
        return -1;
    }

    // ---- Term 4 ------------------------------------------------------------------------------------------------

    boolean testHolds(Tree claim, int test, int row) {
        Runner runner = new Runner(claim, row, 1, -1);
        try {
            return runner.value(claim.tests.get(test)) == 1;
        } catch (End harm) {
            return false;
        }
    }

    boolean claimHolds(Tree claim, int row) {
        for (int test = 0; test < claim.tests.size(); test++) {
            if (!testHolds(claim, test, row)) {
                return false;
            }
        }
        return true;
    }

    /** The least PROOF of some ROWS by trying all; null if there is none. */
    List<Integer> proof(Tree claim, Set<Integer> rowsThere, Set<Integer> parted, Map<Set<Integer>, List<Integer>> known) {
        if (known.containsKey(rowsThere)) {
            return known.get(rowsThere);
        }
        List<Integer> least = null;
        for (int test = 0; test < claim.tests.size(); test++) {
            boolean none = true;
            for (int row : rowsThere) {
                none &= !testHolds(claim, test, row);
            }
            if (none) {
                least = lesser(least, Arrays.asList(100 + test));
            }
        }
        for (int bit = 0; bit < rowBits(); bit++) {
            if (parted.contains(bit)) {
                continue;
            }
            Set<Integer> now = new TreeSet<>(parted);
            now.add(bit);
            Set<Integer> zeros = new TreeSet<>();
            Set<Integer> ones = new TreeSet<>();
            for (int row : rowsThere) {
                ((row >> bit & 1) == 0 ? zeros : ones).add(row);
            }
            List<Integer> first = proof(claim, zeros, now, known);
            List<Integer> second = proof(claim, ones, now, known);
            if (first != null && second != null) {
                List<Integer> all = new ArrayList<>();
                all.add(bit);
                all.addAll(first);
                all.addAll(second);
                least = lesser(least, all);
            }
        }
        known.put(rowsThere, least);
        return least;
    }

    private static int leaves(List<Integer> proof) {
        return (int) proof.stream().filter(b -> b >= 100).count();
    }

    private static List<Integer> lesser(List<Integer> one, List<Integer> other) {
        if (one == null || leaves(one) != leaves(other)) {
            return one == null || leaves(other) < leaves(one) ? other : one;
        }
        for (int i = 0; i < one.size() && i < other.size(); i++) {
            // 100 and more ahead of less, the lesser of each.
            int a = Math.floorMod(one.get(i) - 100, 1000);
            int b = Math.floorMod(other.get(i) - 100, 1000);
            if (a != b) {
                return a < b ? one : other;
            }
        }
        return one;
    }

    /** Reads a PROOF from a place on; the place behind it, or -1 less the place of the wrong byte. */
    int check(Tree claim, int[] bytes, int at, Set<Integer> rowsThere, Set<Integer> parted) {
        if (at >= bytes.length) {
            return -1 - bytes.length;
        }
        if (bytes[at] >= 100) {
            boolean fine = bytes[at] - 100 < claim.tests.size();
            for (int row : rowsThere) {
                fine = fine && !testHolds(claim, bytes[at] - 100, row);
            }
            return fine ? at + 1 : -1 - at;
        }
        if (bytes[at] >= rowBits() || parted.contains(bytes[at])) {
            return -1 - at;
        }
        Set<Integer> now = new TreeSet<>(parted);
        now.add(bytes[at]);
        Set<Integer> zeros = new TreeSet<>();
        Set<Integer> ones = new TreeSet<>();
        for (int row : rowsThere) {
            ((row >> bytes[at] & 1) == 0 ? zeros : ones).add(row);
        }
        int behind = check(claim, bytes, at + 1, zeros, now);
        return behind < 0 ? behind : check(claim, bytes, behind, ones, now);
    }
}
