import java.util.ArrayList;
import java.util.HashMap;
import java.util.HashSet;
import java.util.List;
import java.util.Set;
import java.util.TreeSet;

/** Random texts (of a written seed), programs and claims: AllWays against Model. */
public final class ModelTest {
    private static final Bench b = new Bench();
    private static Texts t = new Texts(20261119);

    private static final int[][] SIZES = {{2, 1, 0}, {2, 1, 1}, {2, 2, 0}, {2, 2, 1}, {2, 1, 2}, {3, 1, 0}, {3, 1, 1},
        {3, 2, 0}, {4, 1, 0}, {4, 2, 0}, {4, 1, 1}, {5, 1, 0}, {6, 1, 0}, {2, 3, 0}, {2, 3, 1}, {2, 2, 2}};
    private static final int[][] GREAT_SIZES = {{3, 3, 0}, {3, 2, 1}, {5, 2, 0}, {5, 1, 1}, {2, 3, 2}, {6, 2, 0},
        {4, 3, 0}, {3, 2, 2}, {6, 1, 1}, {4, 1, 2}};

    public static void main(String[] args) {
        int factor = args.length > 0 ? Integer.parseInt(args[0]) : 1;
        if (args.length > 1) {
            t = new Texts(Long.parseLong(args[1]));
        }
        faults(3000 * factor);
        for (int i = 0; i < 300 * factor; i++) {
            walks(i, SIZES[t.random(SIZES.length)]);
        }
        b.close("promises 7 to 15, 20 to 22: random walks");
        for (int i = 0; i < 12 * factor; i++) {
            walks(i, GREAT_SIZES[t.random(GREAT_SIZES.length)]);
        }
        b.close("promises 7 to 15, 20 to 22: random walks of many ROWS");
        for (int i = 0; i < 250 * factor; i++) {
            questions(i, SIZES[t.random(SIZES.length)]);
        }
        b.close("promises 16 to 19, 23 to 26, 32, 33: random programs");
        for (int i = 0; i < 200 * factor; i++) {
            claims(i, SIZES[t.random(SIZES.length)]);
        }
        b.close("promises 27 to 31: random claims");
        b.finish();
    }

    private static void faults(int times) {
        AllWays x = new AllWays();
        int calls = 0;
        for (int i = 0; i < times; i++) {
            t.namesUsed = 5;
            boolean isClaim = t.chance(25);
            String text = t.chance(20) ? t.longText() : isClaim ? t.anyClaim() : t.anyProgram();
            if (t.chance(70)) {
                text = t.mutated(text);
            }
            if (text.length() > 540) {
                text = text.substring(0, 540);
            }
            if (calls > 400) {
                x = new AllWays();
                calls = 0;
            }
            calls += 33;
            Model.Reading reading = Model.read(text, isClaim);
            int due = reading.kind != 0 ? -1 - reading.place : isClaim ? reading.tests : reading.steps;
            b.due("reading " + text, isClaim ? Bench.claim(x, text) : Bench.program(x, 0, text), due);
            b.due("fault of " + text, x.fault(), reading.kind);
        }
        b.close("promises 4, 5, 27: random texts and their FAULTS");
    }

    // ---- random programs ---------------------------------------------------------------------------------------

    private static int fuel() {
        return t.chance(60) ? 40 : 1 + t.random(40);
    }

    private static Model model(int[] sizes) {
        Model model = new Model();
        model.bits = sizes[0];
        model.letters = sizes[1];
        model.answers = sizes[2];
        return model;
    }

    private static AllWays bench(Model model, String... texts) {
        AllWays x = new AllWays();
        x.sizes(model.bits, model.letters, model.answers);
        for (int k = 0; k < texts.length; k++) {
            b.due("program " + texts[k], Bench.program(x, k, texts[k]), Model.read(texts[k], false).steps);
        }
        return x;
    }

    private static void walks(int i, int[] sizes) {
        Model model = model(sizes);
        String text = t.fineProgram();
        int fuel = fuel();
        String where = "[" + sizes[0] + " " + sizes[1] + " " + sizes[2] + " fuel " + fuel + " " + text + "] ";
        List<Model.Run> runs = model.runs(Model.program(text), fuel);
        List<List<Integer>> ways = Model.ways(runs);
        AllWays x = bench(model, text);
        b.due(where + "walk", x.walk(0, fuel), ways.size());
        for (int n = 0; n < 20; n++) {
            int way = n < ways.size() && ways.size() < 20 ? n : t.random(ways.size());
            wayDue(where, x, way, ways.get(way), runs);
        }
        for (int n = 0; n < 20; n++) {
            int row = t.random(runs.size());
            int found = x.along(row);
            b.due(where + "along " + row, found >= 0 && found < ways.size() && ways.get(found).contains(row), true);
        }
        leastDue(where, x, runs);
        coverDue(where, x, runs);
        AllWays y = bench(model, text);
        y.walk(0, fuel);
        int steps = Model.read(text, false).steps;
        for (int n = 0; n < 10; n++) {
            lawsDue(where, y, model, runs, t.random(steps + 1));
        }
        roundsDue(where, bench(model, text), Model.program(text), runs, fuel);
    }

    private static void wayDue(String where, AllWays x, int way, List<Integer> rows, List<Model.Run> runs) {
        Model.Run run = runs.get(rows.get(0));
        String at = where + "way " + way + " ";
        b.due(at + "end", Bench.way(x, way, 0), run.end);
        b.due(at + "STEP", Bench.way(x, way, 1), run.step);
        b.due(at + "DECISIONS", Bench.way(x, way, 2), run.decisions);
        b.due(at + "ROWS", Bench.way(x, way, 3), rows.size());
        b.due(at + "least", Bench.way(x, way, 4), rows.get(0));
        b.due(at + "BEGUN", Bench.way(x, way, 5), run.begun);
        int d = t.random(run.decisions + 1);
        int seen = 0;
        int due = -1;
        for (Model.Event event : run.events) {
            if (event.kind.equals("yes") || event.kind.equals("no")) {
                due = seen == d ? event.kind.equals("yes") ? 1 : 0 : due;
                seen++;
            }
        }
        b.due(at + "went " + d, x.went(way, d), due);
    }

    private static void leastDue(String where, AllWays x, List<Model.Run> runs) {
        for (int n = 0; n < 12; n++) {
            int end = n < 6 ? n : runs.get(t.random(runs.size())).end;
            int step = n < 6 ? -1 : runs.get(t.random(runs.size())).step;
            int due = -1;
            for (int row = runs.size() - 1; row >= 0; row--) {
                Model.Run run = runs.get(row);
                due = run.end == end && (step == -1 || run.step == step) ? row : due;
            }
            b.due(where + "least " + end + " " + step, x.least(end, step), due);
        }
    }

    private static void coverDue(String where, AllWays x, List<Model.Run> runs) {
        List<Integer> cover = Model.cover(runs);
        b.due(where + "cover", x.cover(), cover == null ? -1 : cover.size());
        for (int n = 0; n < 3; n++) {
            b.due(where + "coverAt " + n, x.coverAt(n), cover == null || n >= cover.size() ? -1 : cover.get(n));
        }
    }

    private static void lawsDue(String where, AllWays x, Model model, List<Model.Run> runs, int step) {
        List<int[]> states = Model.states(runs, step);
        for (int n = 0; n < 3; n++) {
            int name = t.random(8);
            TreeSet<Integer> values = new TreeSet<>();
            for (int[] state : states) {
                values.add(state[name]);
            }
            String at = where + "step " + step + " name " + name + " ";
            b.due(at + "how many", x.may(step, name, 0), values.isEmpty() ? -1 : values.size());
            b.due(at + "least", x.may(step, name, 1), values.isEmpty() ? -1 : values.first());
            b.due(at + "greatest", x.may(step, name, 2), values.isEmpty() ? -1 : values.last());
        }
        for (int n = 0; n < 8; n++) {
            int name = t.random(8);
            int r = t.random(4);
            int other = t.chance(50) ? t.random(8) : 100 + t.random(model.numbers());
            b.due(where + "step " + step + " law " + name + " " + r + " " + other, x.law(step, name, r, other),
                    lawOf(states, name, r, other));
        }
        List<Integer> laws = new ArrayList<>();
        for (int name = 0; name < 8; name++) {
            for (int other = name + 1; other < 8; other++) {
                for (int r = 0; r < 3; r++) {
                    if (lawOf(states, name, r, other) == 1) {
                        laws.add(100 * name + 10 * other + r);
                    }
                }
            }
        }
        b.due(where + "laws " + step, x.laws(step), states.isEmpty() ? -1 : laws.size());
        for (int k = 0; k < 5 && !states.isEmpty(); k++) {
            int at = t.random(laws.size() + 1);
            b.due(where + "lawAt " + at, x.lawAt(at), at < laws.size() ? laws.get(at) : -1);
        }
    }

    private static int lawOf(List<int[]> states, int name, int r, int other) {
        if (states.isEmpty()) {
            return -1;
        }
        for (int[] state : states) {
            if (!Model.holds(state[name], r, other >= 100 ? other - 100 : state[other])) {
                return 0;
            }
        }
        return 1;
    }

    private static void roundsDue(String where, AllWays x, Model.Tree tree, List<Model.Run> runs, int fuel) {
        x.walk(0, fuel);
        for (int step = 0; step <= tree.steps.size(); step++) {
            TreeSet<Integer> rounds = new TreeSet<>();
            for (Model.Run run : runs) {
                if (run.end != 4) {
                    rounds.add(run.rounds.getOrDefault(step, 0));
                }
            }
            boolean none = step == tree.steps.size() || !tree.steps.get(step).kind.equals("while") || rounds.isEmpty();
            b.due(where + "rounds " + step + " least", x.rounds(step, 0), none ? -1 : rounds.first());
            b.due(where + "rounds " + step + " greatest", x.rounds(step, 1), none ? -1 : rounds.last());
        }
    }

    private static void questions(int i, int[] sizes) {
        Model model = model(sizes);
        String text = t.fineProgram();
        String other = t.chance(60) ? alikeText(text) : t.fineProgram();
        int fuel = fuel();
        String where = "[" + sizes[0] + " " + sizes[1] + " " + sizes[2] + " fuel " + fuel + " " + text + " / " + other
                + "] ";
        Model.Tree tree = Model.program(text);
        List<Model.Run> runs = model.runs(tree, fuel);
        List<Model.Run> others = model.runs(Model.program(other), fuel);
        AllWays x = bench(model, text, other);
        int alike = -1;
        for (int row = model.rows() - 1; row >= 0; row--) {
            alike = runs.get(row).endsLike(others.get(row)) ? alike : row;
        }
        b.due(where + "alike", x.alike(0, 1, fuel), alike);
        b.due(where + "alike", x.alike(1, 0, fuel), alike);
        for (int l = 0; l < model.letters; l++) {
            b.due(where + "hangs " + l, x.hangs(0, l, fuel), model.hangs(runs, l));
        }
        safeDue(where, x, model, runs, fuel);
        b.due(where + "rule", x.rule(0, fuel), ruleOf(model, tree, fuel));
        for (int v = 0; v < model.numbers(); v++) {
            int reach = -1;
            for (int row = model.rows() - 1; row >= 0; row--) {
                reach = runs.get(row).end == 0 && runs.get(row).names[7] == v ? row : reach;
            }
            b.due(where + "reach " + v, x.reach(0, v, fuel), reach);
        }
        int[] mend = model.mend(tree, fuel);
        b.due(where + "mend", x.mend(0, fuel), mend == null ? -1 : mend[0]);
        b.due(where + "mended", x.mended(), mend == null ? -1 : mend[1]);
        for (int n = 0; n < 10; n++) {
            runDue(where, x, runs, t.random(model.rows()), fuel);
        }
    }

    /** A text that is like another one but for a number or so, if that is one without FAULTS. */
    private static String alikeText(String text) {
        StringBuilder s = new StringBuilder(text);
        int at = t.random(s.length());
        for (int i = 0; i < s.length(); i++) {
            int there = (at + i) % s.length();
            if (Character.isDigit(s.charAt(there))) {
                s.setCharAt(there, (char) ('0' + t.random(10)));
                break;
            }
        }
        return Model.read(s.toString(), false).kind == 0 ? s.toString() : text;
    }

    private static void safeDue(String where, AllWays x, Model model, List<Model.Run> runs, int fuel) {
        int lettersRows = 1 << (model.bits * model.letters);
        Set<Integer> unsafe = new TreeSet<>();
        for (int row = 0; row < model.rows(); row++) {
            if (runs.get(row).harmed()) {
                unsafe.add(row % lettersRows);
            }
        }
        b.due(where + "safe", x.safe(0, fuel), lettersRows - unsafe.size());
        b.due(where + "unsafe", x.unsafe(), unsafe.isEmpty() ? -1 : unsafe.iterator().next());
    }

    private static int ruleOf(Model model, Model.Tree tree, int fuel) {
        for (int answer = 0; answer < model.numbers(); answer++) {
            boolean fine = true;
            for (int row = 0; row < 1 << (model.bits * model.letters); row++) {
                fine = fine && !model.runRuled(tree, row, fuel, answer).harmed();
            }
            if (fine) {
                return answer;
            }
        }
        return -1;
    }

    private static void runDue(String where, AllWays x, List<Model.Run> runs, int row, int fuel) {
        Model.Run run = runs.get(row);
        b.due(where + "run " + row, x.run(0, row, fuel), run.end);
        for (int n = 0; n < 8; n++) {
            b.due(where + "run " + row + " got " + n, x.got(n), run.names[n]);
            b.due(where + "run " + row + " got " + (8 + n), x.got(8 + n), run.cells[n]);
        }
        b.due(where + "run " + row + " got 16", x.got(16), run.step);
    }

    // ---- random claims -----------------------------------------------------------------------------------------

    private static void claims(int i, int[] sizes) {
        Model model = model(sizes);
        t.namesUsed = 1 + t.random(4);
        String text = t.anyClaim();
        if (Model.read(text, true).kind != 0) {
            return;
        }
        String where = "[" + sizes[0] + " " + sizes[1] + " " + sizes[2] + " " + text + "] ";
        Model.Tree claim = Model.claim(text);
        AllWays x = bench(model);
        b.due(where + "claim", Bench.claim(x, text), claim.tests.size());
        Set<Integer> all = new TreeSet<>();
        int least = -1;
        for (int row = model.rows() - 1; row >= 0; row--) {
            least = model.claimHolds(claim, row) ? row : least;
            all.add(row);
        }
        b.due(where + "holds", x.holds(), least);
        if (model.rowBits() > 6) {
            // All PROOFS of more bits are too many to try.
            b.due(where + "proof", x.proof() == -1, least != -1);
            b.due(where + "check of proof", checkOf(x, proofOf(x)), least != -1 ? 0 : -1);
            return;
        }
        List<Integer> proof = model.proof(claim, all, new HashSet<>(), new HashMap<>());
        b.due(where + "proof", x.proof(), proof == null ? -1 : proof.size());
        for (int k = 0; proof != null && k <= proof.size() && k < 40; k++) {
            b.due(where + "proofAt " + k, x.proofAt(k), k < proof.size() ? proof.get(k) : -1);
        }
        for (int n = 0; n < 6; n++) {
            checkDue(where, x, model, claim, all, proof);
        }
    }

    private static int[] proofOf(AllWays x) {
        List<Integer> bytes = new ArrayList<>();
        for (int k = 0; x.proofAt(k) != -1 && k < 400; k++) {
            bytes.add(x.proofAt(k));
        }
        return bytes.stream().mapToInt(Integer::intValue).toArray();
    }

    private static int checkOf(AllWays x, int[] bytes) {
        return Bench.check(x, bytes);
    }

    private static void checkDue(String where, AllWays x, Model model, Model.Tree claim, Set<Integer> all,
            List<Integer> proof) {
        List<Integer> bytes = new ArrayList<>();
        if (proof != null && t.chance(70)) {
            bytes.addAll(proof);
            int at = t.random(bytes.size());
            int kind = t.random(4);
            if (kind == 0) {
                bytes.set(at, t.chance(50) ? t.random(8) : 100 + t.random(6));
            } else if (kind == 1) {
                bytes.add(at, t.random(6));
            } else if (kind == 2) {
                bytes.remove(at);
            }
        } else {
            randomProof(bytes, model, claim, new TreeSet<>());
        }
        int[] given = bytes.stream().limit(60).mapToInt(Integer::intValue).toArray();
        int behind = model.check(claim, given, 0, all, new HashSet<>());
        int due = behind < 0 ? -1 - behind : behind < given.length ? behind : -1;
        b.due(where + "check " + bytes, Bench.check(x, given), due);
    }

    private static void randomProof(List<Integer> bytes, Model model, Model.Tree claim, Set<Integer> parted) {
        int bit = t.random(model.rowBits());
        if (t.chance(60) && !parted.contains(bit)) {
            bytes.add(bit);
            parted.add(bit);
            randomProof(bytes, model, claim, parted);
            randomProof(bytes, model, claim, parted);
            parted.remove(bit);
        } else {
            bytes.add(100 + t.random(claim.tests.size()));
        }
    }
}
