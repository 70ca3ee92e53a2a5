import java.util.NoSuchElementException;

public final class AllWays {
    public static final int NONE = -1;

    private static final int NO_SUCH = -2;
    private static final int NO_PROGRAM = -1000;

    private static final int MOST_BYTES = 540;
    private static final int MOST_TEXT = 500;
    private static final int MOST_TOKENS = MOST_TEXT + 1;
    private static final int MOST_STEPS = 60;
    private static final int MOST_UNITS = 150;
    private static final int MOST_OPEN = 10;
    private static final int MOST_TESTS = 20;
    private static final int MOST_MENDED = 20;
    private static final int GREATEST_IN_TEXT = 255;

    private static final int PROGRAMS = 4;
    private static final int PROCS = 4;
    private static final int NAMES = 8;
    private static final int CELLS = 8;
    private static final int LETTER_H = 7;
    private static final int PAIRS = 28;

    private static final int MOST_ROW_BITS = 12;
    private static final int MOST_ROWS = 4096;
    private static final int MOST_PROOF_BITS = 8;
    private static final int MOST_FUEL = 40;
    private static final int MOST_BEGUN = 1000;
    private static final int MOST_COVER = 2;

    // How a RUN ends; GOING while it does not.
    private static final int GOING = -1;
    private static final int BY_END = 0;
    private static final int BY_MUST = 1;
    private static final int BY_DIVISION = 2;
    private static final int BY_CELL = 3;
    private static final int BY_LET = 4;
    private static final int BY_FUEL = 5;

    // The R of LAWS.
    private static final int LESS = 0;
    private static final int EQUAL = 1;
    private static final int GREATER = 2;
    private static final int UNLIKE = 3;
    private static final int LAW_NUMBERS = 100;

    // The kinds of a FAULT.
    private static final int CANNOT_COME = 1;
    private static final int TOO_GREAT = 2;
    private static final int TOO_MANY = 3;
    private static final int WRONG_PROC = 4;

    private final Sizes sizes = new Sizes();
    private final Tape tape = new Tape();
    private final Machine machine = new Machine(sizes);
    private final Walked walked = new Walked();
    private final Proofs proofs = new Proofs(sizes, machine);
    private final Code[] programs = {new Code(), new Code(), new Code(), new Code()};
    private Code claimed = new Code();
    private Code spare = new Code();
    private final Parser parser = new Parser(tape, spare);
    private int faultKind;
    private final int[] coverRows = new int[MOST_COVER];
    private int coverSize;
    private int unsafeLetters = NONE;
    private final int[] lawList = new int[PAIRS];
    private int lawCount;
    private int mendedNumber = NONE;
    private final int[] lastRun = new int[NAMES + CELLS + 1];
    private boolean hasRun;

    public AllWays() {
        // The fields' own beginnings are the new object.
    }

    public int feed(int a, int b, int c, int d, int e) {
        if (!tape.hasRoomFor(20)) {
            return NONE;
        }
        tape.append(a);
        tape.append(b);
        tape.append(c);
        tape.append(d);
        tape.append(e);
        return tape.size;
    }

    public boolean end(int n) {
        return tape.cut(n);
    }

    public int program(int k) {
        Code old = programAt(k);
        if (old == null) {
            tape.cut(0);
            return NO_PROGRAM;
        }
        Code fresh = spare;
        parser.restart(fresh);
        boolean fine = parser.readProcs() && parser.readSteps();
        noteReading();
        if (!fine) {
            return -1 - parser.faultPlace;
        }
        if (k >= 0 && k < programs.length) {
            programs[k] = fresh;
            spare = old;
        }
        return fresh.steps;
    }

    public int fault() {
        return faultKind;
    }

    public boolean sizes(int bits, int letters, int answers) {
        if (!sizes.change(bits, letters, answers)) {
            return false;
        }
        walked.forget();
        return true;
    }

    public int walk(int k, int fuel) {
        Code code = programAt(k);
        if (code == null || !isFuel(fuel)) {
            return NONE;
        }
        walked.begin(code, sizes.rows());
        for (int row = 0; row < sizes.rows(); row++) {
            machine.launchTraced(code, row, fuel);
            walked.note(row, machine);
        }
        return walked.ways;
    }

    public int way(int i, int what) throws NoSuchElementException {
        if (!walked.isWay(i) || what < 0 || what > 5) {
            throw new NoSuchElementException("no such way, or no such thing of it");
        }
        return walked.ofWay(i, what);
    }

    public int went(int i, int d) {
        return walked.decision(i, d);
    }

    public int along(int row) {
        return walked.isRow(row) ? walked.wayOf(row) : NONE;
    }

    public int least(int end, int step) {
        return walked.leastRow(end, step);
    }

    public int may(int step, int name, int what) {
        if (!walked.isBegun(step) || !isName(name)) {
            return NONE;
        }
        long numbers = walked.numbersOf(step, name);
        switch (what) {
            case 0:
                return Long.bitCount(numbers);
            case 1:
                return Long.numberOfTrailingZeros(numbers);
            case 2:
                return 63 - Long.numberOfLeadingZeros(numbers);
            default:
                return NONE;
        }
    }

    public int law(int step, int name, int r, int other) {
        if (!walked.isBegun(step) || !isName(name) || r < LESS || r > UNLIKE) {
            return NONE;
        }
        if (isName(other)) {
            return holdsAlways(walked.relationsOf(step, name, other), r) ? 1 : 0;
        }
        if (other < LAW_NUMBERS || other > LAW_NUMBERS + sizes.greatest()) {
            return NONE;
        }
        int relations = relationsTo(walked.numbersOf(step, name), other - LAW_NUMBERS);
        return holdsAlways(relations, r) ? 1 : 0;
    }

    public int cover() {
        if (!walked.done) {
            return NONE;
        }
        int size = walked.findCover(coverRows);
        if (size != NONE) {
            coverSize = size;
        }
        return size;
    }

    public int coverAt(int k) {
        return k >= 0 && k < coverSize && k < coverRows.length ? coverRows[k] : NONE;
    }

    public int alike(int j, int k, int fuel) {
        Code one = programAt(j);
        Code other = programAt(k);
        if (one == null || other == null || !isFuel(fuel)) {
            return NO_SUCH;
        }
        for (int row = 0; row < sizes.rows(); row++) {
            if (machine.outcome(one, row, fuel) != machine.outcome(other, row, fuel)) {
                return row;
            }
        }
        return NONE;
    }

    public int safe(int k, int fuel) {
        Code code = programAt(k);
        if (code == null || !isFuel(fuel)) {
            return NONE;
        }
        int safeOnes = 0;
        unsafeLetters = NONE;
        for (int letters = 0; letters < sizes.letterRows(); letters++) {
            if (isSafe(code, letters, fuel)) {
                safeOnes++;
            } else if (unsafeLetters == NONE) {
                unsafeLetters = letters;
            }
        }
        return safeOnes;
    }

    public int unsafe() {
        return unsafeLetters;
    }

    public int rule(int k, int fuel) {
        Code code = programAt(k);
        if (code == null || !isFuel(fuel)) {
            return NO_SUCH;
        }
        int harmed = 0;
        for (int answer = 0; answer <= sizes.greatest(); answer++) {
            int found = harmedRow(code, fuel, answer, harmed);
            if (found == NONE) {
                return answer;
            }
            harmed = found;
        }
        return NONE;
    }

    public int rounds(int step, int what) {
        if (!walked.isWhile(step)) {
            return NONE;
        }
        return walked.roundsOf(step, what);
    }

    public int laws(int step) {
        if (!walked.isBegun(step)) {
            return NONE;
        }
        lawCount = 0;
        for (int first = 0; first < NAMES; first++) {
            for (int other = first + 1; other < NAMES; other++) {
                noteLaw(first, other, walked.relationsOf(step, first, other));
            }
        }
        return lawCount;
    }

    public int lawAt(int k) {
        return k >= 0 && k < lawCount && k < lawList.length ? lawList[k] : NONE;
    }

    public int hangs(int k, int l, int fuel) {
        Code code = programAt(k);
        if (code == null || l < 0 || l >= sizes.letters || !isFuel(fuel)) {
            return NO_SUCH;
        }
        int unit = 1 << (sizes.bits * l);
        for (int row = 0; row < sizes.rows(); row++) {
            // Of ROWS unlike in this letter alone, if any two end unlike, the one with 0 has such a one.
            boolean isFirst = (row & (unit * sizes.greatest())) == 0;
            if (isFirst && endsUnlike(code, row, unit, fuel)) {
                return row;
            }
        }
        return NONE;
    }

    public int reach(int k, int v, int fuel) {
        Code code = programAt(k);
        if (code == null || v < 0 || v > sizes.greatest() || !isFuel(fuel)) {
            return NO_SUCH;
        }
        for (int row = 0; row < sizes.rows(); row++) {
            if (machine.outcome(code, row, fuel) == v) {
                return row;
            }
        }
        return NONE;
    }

    public int mend(int k, int fuel) {
        Code code = programAt(k);
        if (code == null || !isFuel(fuel) || sizes.rowBits() > MOST_PROOF_BITS) {
            return NO_SUCH;
        }
        int harmed = harmedRow(code, fuel, NONE, 0);
        if (harmed == NONE) {
            return NONE;
        }
        for (int number = 0; number < code.numbers; number++) {
            int value = mendingValue(code, number, fuel, harmed);
            if (value != NONE) {
                mendedNumber = value;
                return number;
            }
        }
        return NONE;
    }

    public int mended() {
        return mendedNumber;
    }

    public int claim() {
        parser.restart(spare);
        boolean fine = parser.readTests();
        noteReading();
        if (!fine) {
            return -1 - parser.faultPlace;
        }
        Code old = claimed;
        claimed = spare;
        spare = old;
        return claimed.tests;
    }

    public int holds() {
        if (claimed.tests == 0) {
            return NO_SUCH;
        }
        for (int row = 0; row < sizes.rows(); row++) {
            if (machine.failingTests(claimed, row) == 0) {
                return row;
            }
        }
        return NONE;
    }

    public int proof() {
        if (claimed.tests == 0 || sizes.rowBits() > MOST_PROOF_BITS) {
            return NO_SUCH;
        }
        return proofs.find(claimed);
    }

    public int proofAt(int k) {
        return proofs.byteAt(k);
    }

    public int check() {
        if (claimed.tests == 0 || sizes.rowBits() > MOST_PROOF_BITS) {
            tape.cut(0);
            return NO_SUCH;
        }
        int wrong = proofs.firstWrong(claimed, tape);
        tape.cut(0);
        return wrong;
    }

    public int run(int k, int row, int fuel) {
        Code code = programAt(k);
        if (code == null || row < 0 || row >= sizes.rows() || !isFuel(fuel)) {
            return NONE;
        }
        machine.launch(code, row, fuel);
        keepRun();
        return machine.ending;
    }

    public int got(int n) {
        return hasRun && n >= 0 && n < lastRun.length ? lastRun[n] : NONE;
    }

    public int count(int what) {
        switch (what) {
            case 0:
                return sizes.bits;
            case 1:
                return sizes.letters;
            case 2:
                return sizes.answers;
            case 3:
                return tape.size;
            default:
                return NONE;
        }
    }

    private Code programAt(int k) {
        return k >= 0 && k < programs.length ? programs[k] : null;
    }

    private static boolean isFuel(int fuel) {
        return fuel >= 1 && fuel <= MOST_FUEL;
    }

    private static boolean isName(int name) {
        return name >= 0 && name < NAMES;
    }

    private static boolean isHarm(int ending) {
        return ending == BY_MUST || ending == BY_DIVISION || ending == BY_CELL;
    }

    private static int valueAt(int[] table, int index) {
        return index >= 0 && index < table.length ? table[index] : 0;
    }

    private static long valueAt(long[] table, int index) {
        return index >= 0 && index < table.length ? table[index] : 0;
    }

    /* The relation of two numbers as a bit: 1 less, 2 equal, 4 greater. */
    private static int relationOf(long one, long other) {
        if (one < other) {
            return 1 << LESS;
        }
        return one == other ? 1 << EQUAL : 1 << GREATER;
    }

    /* The relations that a set of numbers has to one number. */
    private static int relationsTo(long numbers, int number) {
        long upTo = (2L << number) - 1;
        long itself = 1L << number;
        int relations = 0;
        if ((numbers & upTo & ~itself) != 0) {
            relations |= 1 << LESS;
        }
        if ((numbers & itself) != 0) {
            relations |= 1 << EQUAL;
        }
        if ((numbers & ~upTo) != 0) {
            relations |= 1 << GREATER;
        }
        return relations;
    }

    private static boolean holdsAlways(int relations, int r) {
        if (r == UNLIKE) {
            return (relations & (1 << EQUAL)) == 0;
        }
        return relations == 1 << r;
    }

    private void noteReading() {
        faultKind = parser.faultKind;
        tape.cut(0);
    }

    private void noteLaw(int first, int other, int relations) {
        for (int r = LESS; r <= GREATER; r++) {
            if (holdsAlways(relations, r) && lawCount >= 0 && lawCount < lawList.length) {
                lawList[lawCount] = 100 * first + 10 * other + r;
                lawCount++;
            }
        }
    }

    private boolean isSafe(Code code, int letters, int fuel) {
        for (int answers = 0; answers < sizes.answerRows(); answers++) {
            int row = letters + answers * sizes.letterRows();
            if (isHarm(machine.launch(code, row, fuel))) {
                return false;
            }
        }
        return true;
    }

    /*
     * A ROW that comes to harm, with its own answers (answer NONE) or with one for all. A ROW that came to harm
     * by a like program is tried first, for it is likely to do so again.
     */
    private int harmedRow(Code code, int fuel, int answer, int likely) {
        int rows = answer == NONE ? sizes.rows() : sizes.letterRows();
        for (int i = 0; i < rows; i++) {
            int row = (likely + i) & (rows - 1);
            if (isHarm(machine.launchAnswered(code, row, fuel, answer))) {
                return row;
            }
        }
        return NONE;
    }

    private int mendingValue(Code code, int number, int fuel, int harmed) {
        int at = code.numberPlace(number);
        int old = code.argAt(at);
        int likely = harmed;
        int mending = NONE;
        for (int value = 0; value <= sizes.greatest() && mending == NONE; value++) {
            code.change(at, value);
            int found = harmedRow(code, fuel, NONE, likely);
            if (found == NONE) {
                mending = value;
            } else {
                likely = found;
            }
        }
        code.change(at, old);
        return mending;
    }

    private boolean endsUnlike(Code code, int first, int unit, int fuel) {
        int outcome = machine.outcome(code, first, fuel);
        for (int value = 1; value <= sizes.greatest(); value++) {
            if (machine.outcome(code, first + value * unit, fuel) != outcome) {
                return true;
            }
        }
        return false;
    }

    private void keepRun() {
        hasRun = true;
        for (int n = 0; n < NAMES; n++) {
            lastRun[n] = valueAt(machine.names, n);
        }
        for (int n = 0; n < CELLS; n++) {
            lastRun[NAMES + n] = valueAt(machine.cells, n);
        }
        lastRun[NAMES + CELLS] = machine.endStep;
    }

    private static final class Sizes {
        private int bits = 3;
        private int letters = 1;
        private int answers = 0;

        boolean change(int newBits, int newLetters, int newAnswers) {
            boolean fine = newBits >= 2 && newBits <= 6 && newLetters >= 1 && newLetters <= 3
                    && newAnswers >= 0 && newAnswers <= 2;
            if (!fine || newBits * (newLetters + newAnswers) > MOST_ROW_BITS) {
                return false;
            }
            bits = newBits;
            letters = newLetters;
            answers = newAnswers;
            return true;
        }

        int rowBits() {
            return bits * (letters + answers);
        }

        int rows() {
            return 1 << rowBits();
        }

        int letterRows() {
            return 1 << (bits * letters);
        }

        int answerRows() {
            return 1 << (bits * answers);
        }

        int greatest() {
            return (1 << bits) - 1;
        }
    }

    private static final class Tape {
        private final int[] bytes = new int[MOST_BYTES];
        private int size;

        boolean hasRoomFor(int more) {
            return size + more <= bytes.length;
        }

        void append(int four) {
            for (int shift = 24; shift >= 0; shift -= 8) {
                if (size >= 0 && size < bytes.length) {
                    bytes[size] = (four >>> shift) & 255;
                    size++;
                }
            }
        }

        boolean cut(int n) {
            if (n < 0 || n > size) {
                return false;
            }
            size = n;
            return true;
        }

        int byteAt(int place) {
            return place >= 0 && place < size && place < bytes.length ? bytes[place] : NONE;
        }
    }

    /* The TOKENS of the tape's text, up to the first that can come nowhere; a sign's kind is the sign itself. */
    private static final class Tokens {
        private static final int BAD = 0;
        private static final int END_OF_TEXT = 1;
        private static final int NAME = 2;
        private static final int PROC_NAME = 3;
        private static final int NUMBER = 4;
        private static final int FIRST_WORD = 5;
        private static final int WORD_PROC = 5;
        private static final int WORD_CALL = 6;
        private static final int WORD_CELL = 7;
        private static final int WORD_IF = 8;
        private static final int WORD_ELSE = 9;
        private static final int WORD_WHILE = 10;
        private static final int WORD_MUST = 11;
        private static final int WORD_LET = 12;
        private static final int WORD_ASK = 13;
        private static final int WORD_END = 14;
        private static final int WORD_OR = 15;
        private static final int WORD_AND = 16;
        private static final int LONGEST_WORD = 5;
        private static final int LONGEST_NUMBER = 3;
        // In the order of the kinds, five places each.
        private static final String WORDS = "proc call cell if   else whilemust let  ask  end  or   and  ";
        private static final String SIGNS = ";{}()[]+-*/=<>#";

        private final Tape tape;
        private final int[] kinds = new int[MOST_TOKENS];
        private final int[] places = new int[MOST_TOKENS];
        private final int[] values = new int[MOST_TOKENS];
        private int next;
        private int at;
        private int kind;
        private int place;
        private int value;

        Tokens(Tape tape) {
            this.tape = tape;
        }

        /* Reads all, and stands at the first one then. */
        void readAll() {
            next = 0;
            kind = FIRST_WORD;
            for (int i = 0; i < MOST_TOKENS && kind != BAD && kind != END_OF_TEXT; i++) {
                readToken();
                kinds[i] = kind;
                places[i] = place;
                values[i] = value;
            }
            at = NONE;
            advance();
        }

        void advance() {
            at++;
            if (at >= 0 && at < MOST_TOKENS) {
                kind = kinds[at];
                place = places[at];
                value = values[at];
            }
        }

        private void readToken() {
            skipBlanks();
            place = next;
            value = 0;
            if (next >= MOST_TEXT && tape.size > MOST_TEXT) {
                place = MOST_TEXT;
                kind = BAD;
            } else if (next >= tape.size) {
                kind = END_OF_TEXT;
            } else if (isOfWord(tape.byteAt(next))) {
                readWord();
            } else {
                readSign();
            }
        }

        private void skipBlanks() {
            for (int i = next; i < tape.size && isBlank(tape.byteAt(i)); i++) {
                next = i + 1;
            }
        }

        private static boolean isBlank(int sign) {
            return sign == 32 || sign == 10;
        }

        private static boolean isLetter(int sign) {
            return sign >= 'a' && sign <= 'z';
        }

        private static boolean isDigit(int sign) {
            return sign >= '0' && sign <= '9';
        }

        private static boolean isOfWord(int sign) {
            return isLetter(sign) || isDigit(sign);
        }

        private void readSign() {
            int sign = tape.byteAt(next);
            kind = sign > 32 && sign < 127 && SIGNS.indexOf((char) sign) >= 0 ? sign : BAD;
            next++;
        }

        private void readWord() {
            int digits = 0;
            for (int i = place; i < tape.size && isOfWord(tape.byteAt(i)); i++) {
                if (isDigit(tape.byteAt(i))) {
                    digits++;
                }
                next = i + 1;
            }
            int length = next - place;
            if (digits == length) {
                readNumber(length);
            } else if (digits > 0) {
                kind = BAD;
            } else if (length == 1) {
                readLetter(tape.byteAt(place));
            } else {
                kind = kindOfWord(length);
            }
        }

        private void readNumber(int length) {
            kind = length <= LONGEST_NUMBER ? NUMBER : BAD;
            for (int i = 0; i < length && i < LONGEST_NUMBER; i++) {
                value = 10 * value + tape.byteAt(place + i) - '0';
            }
        }

        private void readLetter(int letter) {
            kind = BAD;
            if (letter >= 'a' && letter <= 'h') {
                kind = NAME;
                value = letter - 'a';
            } else if (letter >= 'p' && letter <= 's') {
                kind = PROC_NAME;
                value = letter - 'p';
            }
        }

        /* A WORD that is no word of the grammar can come nowhere: it is as bad as no TOKEN. */
        private int kindOfWord(int length) {
            if (length > LONGEST_WORD) {
                return BAD;
            }
            for (int word = FIRST_WORD; word <= WORD_AND; word++) {
                if (isWord(length, (word - FIRST_WORD) * LONGEST_WORD)) {
                    return word;
                }
            }
            return BAD;
        }

        private boolean isWord(int length, int from) {
            for (int i = 0; i < LONGEST_WORD; i++) {
                int sign = i < length ? tape.byteAt(place + i) : ' ';
                int there = from + i;
                if (there < 0 || there >= WORDS.length() || WORDS.charAt(there) != sign) {
                    return false;
                }
            }
            return true;
        }
    }

    /* A PROGRAM or a CLAIM, put into instructions: SUMS and CONDS behind their operands, STEPS with jumps. */
    private static final class Code {
        // What SUMS and CONDS are made of.
        private static final int NUMBER = 1;
        private static final int NAME = 2;
        private static final int CELL = 3;
        private static final int ADD = 4;
        private static final int SUBTRACT = 5;
        private static final int MULTIPLY = 6;
        private static final int DIVIDE = 7;
        private static final int IS_LESS = 8;
        private static final int IS_EQUAL = 9;
        private static final int IS_GREATER = 10;
        private static final int IS_UNLIKE = 11;
        private static final int BOTH = 12;
        private static final int EITHER = 13;
        private static final int LAST_OF_SUMS = 13;
        // What is done with them.
        private static final int BEGIN = 20;
        private static final int BEGIN_DECISION = 21;
        private static final int BRANCH = 22;
        private static final int SET_NAME = 23;
        private static final int SET_CELL = 24;
        private static final int MUST = 25;
        private static final int LET = 26;
        private static final int ASK = 27;
        private static final int STOP = 28;
        private static final int CALL = 29;
        private static final int RETURN = 30;
        private static final int JUMP = 31;
        private static final int TEST_DONE = 32;
        private static final int HALT = 33;
        // A TOKEN adds no more than one instruction, and the text's end one.
        private static final int MOST_LENGTH = 600;

        private final int[] ops = new int[MOST_LENGTH];
        private final int[] args = new int[MOST_LENGTH];
        private final int[] numberAt = new int[MOST_MENDED];
        private final int[] testAt = new int[MOST_TESTS];
        private int length;
        private int start;
        private int steps;
        private int units;
        private int numbers;
        private int tests;
        private long whiles;

        void clear() {
            length = 0;
            start = 0;
            steps = 0;
            units = 0;
            numbers = 0;
            tests = 0;
            whiles = 0;
        }

        int opAt(int at) {
            return at >= 0 && at < length && at < ops.length ? ops[at] : HALT;
        }

        int argAt(int at) {
            return at >= 0 && at < length && at < args.length ? args[at] : 0;
        }

        void add(int op, int arg) {
            if (length >= 0 && length < ops.length && length < args.length) {
                ops[length] = op;
                args[length] = arg;
                length++;
            }
        }

        void change(int at, int arg) {
            if (at >= 0 && at < length && at < args.length) {
                args[at] = arg;
            }
        }

        void beginStep(boolean isIf, boolean isWhile) {
            add(isIf || isWhile ? BEGIN_DECISION : BEGIN, steps);
            if (isWhile) {
                whiles |= 1L << steps;
            }
            steps++;
        }

        void addNumber(int value) {
            if (numbers >= 0 && numbers < numberAt.length) {
                numberAt[numbers] = length;
                numbers++;
            }
            add(NUMBER, value);
        }

        void beginTest() {
            if (tests >= 0 && tests < testAt.length) {
                testAt[tests] = length;
                tests++;
            }
        }

        int numberPlace(int number) {
            return number >= 0 && number < numbers ? valueAt(numberAt, number) : NONE;
        }

        int testPlace(int test) {
            return test >= 0 && test < tests ? valueAt(testAt, test) : NONE;
        }
    }

    /*
     * Reads a text by its grammar. Each reading method tells whether it read its part; the first FAULT stops all.
     * open is how many ( [ { are open there: it bounds how deep the methods call one another.
     */
    private static final class Parser {
        private final Tokens tokens;
        private final int[] procStarts = new int[PROCS];
        private Code code;
        private int faultKind;
        private int faultPlace;

        Parser(Tape tape, Code first) {
            tokens = new Tokens(tape);
            code = first;
        }

        void restart(Code target) {
            code = target;
            code.clear();
            faultKind = 0;
            faultPlace = 0;
            for (int i = 0; i < procStarts.length; i++) {
                procStarts[i] = NONE;
            }
            tokens.readAll();
        }

        boolean readProcs() {
            for (int i = 0; i < MOST_TOKENS && tokens.kind == Tokens.WORD_PROC; i++) {
                tokens.advance();
                int proc = tokens.value;
                if (tokens.kind != Tokens.PROC_NAME || proc < 0 || proc >= procStarts.length) {
                    return fail(CANNOT_COME);
                }
                if (procStarts[proc] != NONE) {
                    return fail(WRONG_PROC);
                }
                tokens.advance();
                int from = code.length;
                if (!block(0)) {
                    return false;
                }
                code.add(Code.RETURN, 0);
                // Only now, so that its own BLOCK cannot call it.
                procStarts[proc] = from;
            }
            return true;
        }

        boolean readSteps() {
            code.start = code.length;
            boolean fine = true;
            for (int i = 0; i < MOST_TOKENS && fine && tokens.kind != Tokens.END_OF_TEXT; i++) {
                fine = step(0);
            }
            code.add(Code.HALT, 0);
            return fine;
        }

        boolean readTests() {
            boolean fine = claimedTest();
            for (int i = 0; i < MOST_TOKENS && fine && tokens.kind == Tokens.WORD_AND; i++) {
                tokens.advance();
                fine = claimedTest();
            }
            return fine && (tokens.kind == Tokens.END_OF_TEXT || fail(CANNOT_COME));
        }

        private boolean fail(int kind) {
            faultKind = kind;
            faultPlace = tokens.place;
            return false;
        }

        private boolean sign(int kind) {
            if (tokens.kind != kind) {
                return fail(CANNOT_COME);
            }
            tokens.advance();
            return true;
        }

        private boolean opening(int kind, int open) {
            if (tokens.kind != kind) {
                return fail(CANNOT_COME);
            }
            if (open >= MOST_OPEN) {
                return fail(TOO_MANY);
            }
            tokens.advance();
            return true;
        }

        /* The end of a STEP without a BLOCK, and what it does there. */
        private boolean closing(int op, int arg) {
            code.add(op, arg);
            return sign(';');
        }

        private boolean block(int open) {
            boolean fine = opening('{', open);
            for (int i = 0; i < MOST_TOKENS && fine && tokens.kind != '}'; i++) {
                fine = step(open + 1);
            }
            return fine && sign('}');
        }

        private static boolean beginsStep(int kind) {
            switch (kind) {
                case Tokens.NAME:
                case Tokens.WORD_CALL:
                case Tokens.WORD_CELL:
                case Tokens.WORD_IF:
                case Tokens.WORD_WHILE:
                case Tokens.WORD_MUST:
                case Tokens.WORD_LET:
                case Tokens.WORD_ASK:
                case Tokens.WORD_END:
                    return true;
                default:
                    return false;
            }
        }

        private boolean step(int open) {
            int kind = tokens.kind;
            int value = tokens.value;
            if (!beginsStep(kind)) {
                return fail(CANNOT_COME);
            }
            if (code.steps >= MOST_STEPS) {
                return fail(TOO_MANY);
            }
            int begin = code.length;
            code.beginStep(kind == Tokens.WORD_IF, kind == Tokens.WORD_WHILE);
            tokens.advance();
            switch (kind) {
                case Tokens.WORD_IF:
                    return cond(open) && branches(open);
                case Tokens.WORD_WHILE:
                    return cond(open) && loop(open, begin);
                case Tokens.WORD_MUST:
                    return cond(open) && closing(Code.MUST, 0);
                case Tokens.WORD_LET:
                    return cond(open) && closing(Code.LET, 0);
                case Tokens.NAME:
                    return sign('=') && sum(open) && closing(Code.SET_NAME, value);
                case Tokens.WORD_CELL:
                    return place(open) && sign('=') && sum(open) && closing(Code.SET_CELL, 0);
                case Tokens.WORD_CALL:
                    return called();
                case Tokens.WORD_ASK:
                    return asked();
                default:
                    return closing(Code.STOP, 0);
            }
        }

        private boolean called() {
            int proc = tokens.value;
            if (tokens.kind != Tokens.PROC_NAME || proc < 0 || proc >= procStarts.length) {
                return fail(CANNOT_COME);
            }
            int from = procStarts[proc];
            if (from == NONE) {
                return fail(WRONG_PROC);
            }
            tokens.advance();
            return closing(Code.CALL, from);
        }

        private boolean asked() {
            int name = tokens.value;
            return sign(Tokens.NAME) && closing(Code.ASK, name);
        }

        private boolean branches(int open) {
            int branch = code.length;
            code.add(Code.BRANCH, 0);
            if (!block(open)) {
                return false;
            }
            if (tokens.kind != Tokens.WORD_ELSE) {
                code.change(branch, code.length);
                return true;
            }
            tokens.advance();
            int jump = code.length;
            code.add(Code.JUMP, 0);
            code.change(branch, code.length);
            boolean fine = block(open);
            code.change(jump, code.length);
            return fine;
        }

        private boolean loop(int open, int begin) {
            int branch = code.length;
            code.add(Code.BRANCH, 0);
            boolean fine = block(open);
            // The STEP is BEGUN again each time round.
            code.add(Code.JUMP, begin);
            code.change(branch, code.length);
            return fine;
        }

        /* 'and' is worked out behind its TESTS at once, 'or' only when the next 'or' or the end is there. */
        private boolean cond(int open) {
            boolean fine = test(open);
            boolean orWaits = false;
            for (int i = 0; i < MOST_TOKENS && fine && joins(tokens.kind); i++) {
                boolean isOr = tokens.kind == Tokens.WORD_OR;
                if (isOr && orWaits) {
                    code.add(Code.EITHER, 0);
                }
                orWaits = orWaits || isOr;
                tokens.advance();
                fine = test(open);
                if (!isOr) {
                    code.add(Code.BOTH, 0);
                }
            }
            if (orWaits) {
                code.add(Code.EITHER, 0);
            }
            return fine;
        }

        private static boolean joins(int kind) {
            return kind == Tokens.WORD_AND || kind == Tokens.WORD_OR;
        }

        private boolean claimedTest() {
            int fault = unitFault();
            if (fault != 0) {
                return fail(fault);
            }
            if (code.tests >= MOST_TESTS) {
                return fail(TOO_MANY);
            }
            code.beginTest();
            boolean fine = test(0);
            code.add(Code.TEST_DONE, 0);
            return fine;
        }

        private static int relationOp(int kind) {
            switch (kind) {
                case '<':
                    return Code.IS_LESS;
                case '=':
                    return Code.IS_EQUAL;
                case '>':
                    return Code.IS_GREATER;
                case '#':
                    return Code.IS_UNLIKE;
                default:
                    return NONE;
            }
        }

        private boolean test(int open) {
            if (!sum(open)) {
                return false;
            }
            int op = relationOp(tokens.kind);
            if (op == NONE) {
                return fail(CANNOT_COME);
            }
            tokens.advance();
            boolean fine = sum(open);
            code.add(op, 0);
            return fine;
        }

        private boolean sum(int open) {
            boolean fine = product(open);
            for (int i = 0; i < MOST_TOKENS && fine && (tokens.kind == '+' || tokens.kind == '-'); i++) {
                int op = tokens.kind == '+' ? Code.ADD : Code.SUBTRACT;
                tokens.advance();
                fine = product(open);
                code.add(op, 0);
            }
            return fine;
        }

        private boolean product(int open) {
            boolean fine = unit(open);
            for (int i = 0; i < MOST_TOKENS && fine && (tokens.kind == '*' || tokens.kind == '/'); i++) {
                int op = tokens.kind == '*' ? Code.MULTIPLY : Code.DIVIDE;
                tokens.advance();
                fine = unit(open);
                code.add(op, 0);
            }
            return fine;
        }

        /* The FAULT of a TOKEN at which a UNIT has to begin, but for one UNIT too many; 0 without one. */
        private int unitFault() {
            switch (tokens.kind) {
                case Tokens.NUMBER:
                    return tokens.value > GREATEST_IN_TEXT ? TOO_GREAT : 0;
                case Tokens.NAME:
                case Tokens.WORD_CELL:
                case '(':
                    return 0;
                default:
                    return CANNOT_COME;
            }
        }

        private boolean unit(int open) {
            int fault = unitFault();
            if (fault != 0) {
                return fail(fault);
            }
            if (code.units >= MOST_UNITS) {
                return fail(TOO_MANY);
            }
            code.units++;
            int kind = tokens.kind;
            if (kind == '(') {
                return opening('(', open) && sum(open + 1) && sign(')');
            }
            int value = tokens.value;
            tokens.advance();
            boolean fine = kind != Tokens.WORD_CELL || place(open);
            if (kind == Tokens.NUMBER) {
                code.addNumber(value);
            } else {
                code.add(kind == Tokens.NAME ? Code.NAME : Code.CELL, value);
            }
            return fine;
        }

        /* Where a CELL stands: [ SUM ]. */
        private boolean place(int open) {
            return opening('[', open) && sum(open + 1) && sign(']');
        }
    }

    /* Does one RUN at a time; what it came to stands in the fields until the next one. */
    private static final class Machine {
        // Beyond what any RUN can need: 1001 STEPS with all the jumps behind each.
        private static final int MOST_TURNS = 1000000;
        private static final int DEEPEST_STACK = 64;

        private final Sizes sizes;
        private final int[] names = new int[NAMES];
        private final int[] cells = new int[CELLS];
        private final int[] stack = new int[DEEPEST_STACK];
        private int top;
        private final int[] returns = new int[PROCS];
        private int depth;
        private int greatest;
        // The answers that are still to come, or (not NONE) the one that is each answer.
        private int coming;
        private int fixedAnswer;
        private int fuel;
        private int step;
        private int begun;
        private int decided;
        // DECISION d is bit 39 - d, 1 for no: so lesser paths come first.
        private long path;
        private int ending;
        private int endStep;
        // Of each STEP BEGUN the NAMES (six bits each), then the STEP (six bits).
        private final long[] trace = new long[MOST_BEGUN + 1];
        private final int[] yes = new int[MOST_STEPS];
        private boolean tracing;

        Machine(Sizes sizes) {
            this.sizes = sizes;
        }

        int launch(Code code, int row, int withFuel) {
            return launchAnswered(code, row, withFuel, NONE);
        }

        int launchAnswered(Code code, int row, int withFuel, int answer) {
            layRow(row);
            fixedAnswer = answer;
            fuel = withFuel;
            int at = code.start;
            for (int turn = 0; turn < MOST_TURNS && ending == GOING; turn++) {
                at = workOut(code, at);
                if (ending == GOING) {
                    at = act(code, at);
                }
            }
            return ending;
        }

        void launchTraced(Code code, int row, int withFuel) {
            for (int i = 0; i < yes.length; i++) {
                yes[i] = 0;
            }
            tracing = true;
            launch(code, row, withFuel);
            tracing = false;
        }

        /* What tells two RUNS apart by their end: h behind end 0, else the end. */
        int outcome(Code code, int row, int withFuel) {
            int ended = launch(code, row, withFuel);
            return ended == BY_END ? valueAt(names, LETTER_H) : LAW_NUMBERS + ended;
        }

        /* Bit t: TEST t does not hold for the ROW. */
        int failingTests(Code claim, int row) {
            int failing = 0;
            for (int test = 0; test < claim.tests; test++) {
                layRow(row);
                workOut(claim, claim.testPlace(test));
                if (ending != GOING || pop() == 0) {
                    failing |= 1 << test;
                }
            }
            return failing;
        }

        private void layRow(int row) {
            greatest = sizes.greatest();
            coming = row;
            for (int i = 0; i < names.length; i++) {
                names[i] = 0;
                if (i < sizes.letters) {
                    names[i] = coming & greatest;
                    coming >>>= sizes.bits;
                }
            }
            for (int i = 0; i < cells.length; i++) {
                cells[i] = 0;
            }
            top = 0;
            depth = 0;
            step = NONE;
            begun = 0;
            decided = 0;
            path = 0;
            ending = GOING;
            endStep = NONE;
        }

        private void finish(int end, int atStep) {
            ending = end;
            endStep = atStep;
        }

        private void push(int value) {
            if (top >= 0 && top < stack.length) {
                stack[top] = value;
                top++;
            }
        }

        private int pop() {
            if (top <= 0 || top > stack.length) {
                return 0;
            }
            top--;
            return stack[top];
        }

        private void setName(int name, int value) {
            if (name >= 0 && name < names.length) {
                names[name] = value;
            }
        }

        /* Works out SUMS and CONDS; where the first instruction stands that is none of them. */
        private int workOut(Code code, int from) {
            for (int at = from; at < code.length; at++) {
                int op = code.opAt(at);
                if (op > Code.LAST_OF_SUMS) {
                    return at;
                }
                if (op == Code.NUMBER) {
                    push(code.argAt(at) & greatest);
                } else if (op == Code.NAME) {
                    push(valueAt(names, code.argAt(at)));
                } else if (op == Code.CELL) {
                    readCell();
                } else {
                    operate(op);
                }
                if (ending != GOING) {
                    return at;
                }
            }
            return code.length;
        }

        private void readCell() {
            int place = pop();
            if (place < 0 || place >= cells.length) {
                finish(BY_CELL, step);
            } else {
                push(cells[place]);
            }
        }

        private void setCell() {
            int value = pop();
            int place = pop();
            if (place < 0 || place >= cells.length) {
                finish(BY_CELL, step);
            } else {
                cells[place] = value;
            }
        }

        private void operate(int op) {
            int right = pop();
            int left = pop();
            if (op == Code.DIVIDE) {
                if (right == 0) {
                    finish(BY_DIVISION, step);
                } else {
                    push(left / right);
                }
            } else if (op <= Code.MULTIPLY) {
                push(calculated(op, left, right) & greatest);
            } else {
                push(isTrue(op, left, right) ? 1 : 0);
            }
        }

        private static int calculated(int op, int left, int right) {
            switch (op) {
                case Code.ADD:
                    return left + right;
                case Code.SUBTRACT:
                    return left - right;
                default:
                    return left * right;
            }
        }

        private static boolean isTrue(int op, int left, int right) {
            switch (op) {
                case Code.IS_LESS:
                    return left < right;
                case Code.IS_EQUAL:
                    return left == right;
                case Code.IS_GREATER:
                    return left > right;
                case Code.IS_UNLIKE:
                    return left != right;
                case Code.BOTH:
                    return left != 0 && right != 0;
                default:
                    return left != 0 || right != 0;
            }
        }

        /* Does an instruction of a STEP; where the next one stands. */
        private int act(Code code, int at) {
            int arg = code.argAt(at);
            switch (code.opAt(at)) {
                case Code.BEGIN:
                    beginStep(arg, false);
                    return at + 1;
                case Code.BEGIN_DECISION:
                    beginStep(arg, true);
                    return at + 1;
                case Code.BRANCH:
                    return decide() ? at + 1 : arg;
                case Code.SET_NAME:
                    setName(arg, pop());
                    return at + 1;
                case Code.SET_CELL:
                    setCell();
                    return at + 1;
                case Code.MUST:
                    goOnIf(pop() != 0, BY_MUST);
                    return at + 1;
                case Code.LET:
                    goOnIf(pop() != 0, BY_LET);
                    return at + 1;
                case Code.ASK:
                    setName(arg, nextAnswer());
                    return at + 1;
                case Code.STOP:
                    finish(BY_END, step);
                    return at;
                case Code.CALL:
                    return enter(arg, at + 1);
                case Code.RETURN:
                    return leave();
                case Code.JUMP:
                    return arg;
                default:
                    finish(BY_END, NONE);
                    return at;
            }
        }

        private void beginStep(int number, boolean decides) {
            step = number;
            if (tracing) {
                noteBegun();
            }
            begun++;
            if (begun > MOST_BEGUN || (decides && decided >= fuel)) {
                finish(BY_FUEL, number);
            }
        }

        private void noteBegun() {
            long packed = 0;
            for (int i = names.length - 1; i >= 0; i--) {
                packed = (packed << 6) | names[i];
            }
            if (begun >= 0 && begun < trace.length) {
                trace[begun] = (packed << 6) | step;
            }
        }

        private boolean decide() {
            boolean holds = pop() != 0;
            decided++;
            if (!holds) {
                path |= 1L << (MOST_FUEL - decided);
            } else if (step >= 0 && step < yes.length) {
                yes[step]++;
            }
            return holds;
        }

        private void goOnIf(boolean holds, int end) {
            if (!holds) {
                finish(end, step);
            }
        }

        private int nextAnswer() {
            if (fixedAnswer != NONE) {
                return fixedAnswer;
            }
            int answer = coming & greatest;
            coming >>>= sizes.bits;
            return answer;
        }

        private int enter(int start, int back) {
            if (depth >= 0 && depth < returns.length) {
                returns[depth] = back;
                depth++;
            }
            return start;
        }

        private int leave() {
            if (depth > 0 && depth <= returns.length) {
                depth--;
                return returns[depth];
            }
            return NONE;
        }
    }

    /* What the latest walk found. */
    private static final class Walked {
        // A key tells a WAY, and lesser keys are WAYS ahead: path (40 bits), DECISIONS (6), place of the end (10),
        // end (3). What ends at a STEP ends ahead of what goes on behind it, so the end behind the last STEP
        // has the place behind that STEP's own.
        private static final int END_BITS = 3;
        private static final int PLACE_BITS = 10;
        private static final int DECISION_BITS = 6;
        private static final int MOST_HALVINGS = 40;

        private boolean done;
        private int rows;
        private long whiles;
        private final long[] rowKeys = new long[MOST_ROWS];
        private final int[] rowSteps = new int[MOST_ROWS];
        // The STEPS that a ROW BEGINS; none if it ends by 4.
        private final long[] rowBegun = new long[MOST_ROWS];
        private int ways;
        private final long[] wayKeys = new long[MOST_ROWS];
        private final int[] wayRows = new int[MOST_ROWS];
        private final int[] wayLeast = new int[MOST_ROWS];
        // Of RUNS that do not end by 4.
        private boolean anyKept;
        private long begun;
        private final long[] numbers = new long[MOST_STEPS * NAMES];
        private final int[] relations = new int[MOST_STEPS * NAMES * NAMES];
        private final int[] leastRounds = new int[MOST_STEPS];
        private final int[] mostRounds = new int[MOST_STEPS];
        private final int[] candidates = new int[MOST_ROWS];

        void forget() {
            done = false;
        }

        void begin(Code code, int ofRows) {
            done = true;
            rows = ofRows;
            whiles = code.whiles;
            ways = 0;
            anyKept = false;
            begun = 0;
            for (int i = 0; i < numbers.length; i++) {
                numbers[i] = 0;
            }
            for (int i = 0; i < relations.length; i++) {
                relations[i] = 0;
            }
        }

        void note(int row, Machine machine) {
            if (row < 0 || row >= MOST_ROWS) {
                return;
            }
            long key = keyOf(machine);
            rowKeys[row] = key;
            rowSteps[row] = machine.endStep;
            rowBegun[row] = 0;
            noteWay(key, row);
            if (machine.ending != BY_LET) {
                rowBegun[row] = noteTrace(machine);
                begun |= rowBegun[row];
                noteRounds(machine);
            }
        }

        private static long keyOf(Machine machine) {
            int place = machine.endStep == NONE ? machine.begun + 1 : machine.begun;
            long key = (machine.path << DECISION_BITS) | machine.decided;
            return (((key << PLACE_BITS) | place) << END_BITS) | machine.ending;
        }

        private static int endOf(long key) {
            return (int) key & ((1 << END_BITS) - 1);
        }

        private static int placeOf(long key) {
            return (int) (key >>> END_BITS) & ((1 << PLACE_BITS) - 1);
        }

        private static int decisionsOf(long key) {
            return (int) (key >>> (END_BITS + PLACE_BITS)) & ((1 << DECISION_BITS) - 1);
        }

        private static long pathOf(long key) {
            return key >>> (END_BITS + PLACE_BITS + DECISION_BITS);
        }

        /* Where a WAY stands among those found, or has to be put. */
        private int find(long key) {
            int low = 0;
            int high = ways;
            for (int turn = 0; turn < MOST_HALVINGS && low < high; turn++) {
                int middle = (low + high) / 2;
                if (valueAt(wayKeys, middle) < key) {
                    low = middle + 1;
                } else {
                    high = middle;
                }
            }
            return low;
        }

        private void noteWay(long key, int row) {
            int at = find(key);
            if (at < 0 || at >= MOST_ROWS) {
                return;
            }
            if (at < ways && wayKeys[at] == key) {
                wayRows[at]++;
                return;
            }
            int behind = ways - at;
            if (behind < 0 || ways >= MOST_ROWS) {
                return;
            }
            System.arraycopy(wayKeys, at, wayKeys, at + 1, behind);
            System.arraycopy(wayRows, at, wayRows, at + 1, behind);
            System.arraycopy(wayLeast, at, wayLeast, at + 1, behind);
            wayKeys[at] = key;
            wayRows[at] = 1;
            // ROWS come rising: the first of a WAY is its least.
            wayLeast[at] = row;
            ways++;
        }

        private long noteTrace(Machine machine) {
            long stepsBegun = 0;
            for (int i = 0; i < machine.begun && i < machine.trace.length; i++) {
                long entry = machine.trace[i];
                int step = (int) entry & 63;
                stepsBegun |= 1L << step;
                noteNames(step, entry >>> 6);
            }
            return stepsBegun;
        }

        private void noteNames(int step, long packed) {
            for (int name = 0; name < NAMES; name++) {
                long value = (packed >>> (6 * name)) & 63;
                int at = step * NAMES + name;
                if (at >= 0 && at < numbers.length) {
                    numbers[at] |= 1L << value;
                }
                for (int other = name + 1; other < NAMES; other++) {
                    noteRelation(at * NAMES + other, value, (packed >>> (6 * other)) & 63);
                }
            }
        }

        private void noteRelation(int at, long value, long other) {
            if (at >= 0 && at < relations.length) {
                relations[at] |= relationOf(value, other);
            }
        }

        private void noteRounds(Machine machine) {
            for (int step = 0; step < MOST_STEPS; step++) {
                int times = valueAt(machine.yes, step);
                leastRounds[step] = anyKept ? Math.min(leastRounds[step], times) : times;
                mostRounds[step] = anyKept ? Math.max(mostRounds[step], times) : times;
            }
            anyKept = true;
        }

        boolean isWay(int i) {
            return done && i >= 0 && i < ways;
        }

        boolean isRow(int row) {
            return done && row >= 0 && row < rows;
        }

        boolean isBegun(int step) {
            return done && step >= 0 && step < MOST_STEPS && ((begun >>> step) & 1) == 1;
        }

        boolean isWhile(int step) {
            return done && anyKept && step >= 0 && step < MOST_STEPS && ((whiles >>> step) & 1) == 1;
        }

        int wayOf(int row) {
            return find(valueAt(rowKeys, row));
        }

        int ofWay(int i, int what) {
            long key = valueAt(wayKeys, i);
            int leastRow = valueAt(wayLeast, i);
            int step = valueAt(rowSteps, leastRow);
            switch (what) {
                case 0:
                    return endOf(key);
                case 1:
                    return step;
                case 2:
                    return decisionsOf(key);
                case 3:
                    return valueAt(wayRows, i);
                case 4:
                    return leastRow;
                default:
                    return step == NONE ? placeOf(key) - 1 : placeOf(key);
            }
        }

        int decision(int i, int d) {
            if (!isWay(i)) {
                return NONE;
            }
            long key = valueAt(wayKeys, i);
            if (d < 0 || d >= decisionsOf(key)) {
                return NONE;
            }
            return ((pathOf(key) >>> (MOST_FUEL - 1 - d)) & 1) == 0 ? 1 : 0;
        }

        int leastRow(int end, int step) {
            for (int row = 0; done && row < rows && row < MOST_ROWS; row++) {
                if (endOf(rowKeys[row]) == end && (step == NONE || rowSteps[row] == step)) {
                    return row;
                }
            }
            return NONE;
        }

        long numbersOf(int step, int name) {
            return valueAt(numbers, step * NAMES + name);
        }

        /* Which relations two NAMES have at a STEP, as bits. */
        int relationsOf(int step, int name, int other) {
            if (name == other) {
                return 1 << EQUAL;
            }
            if (name < other) {
                return valueAt(relations, (step * NAMES + name) * NAMES + other);
            }
            int turned = valueAt(relations, (step * NAMES + other) * NAMES + name);
            int less = (turned >>> GREATER) & 1;
            int equal = (turned >>> EQUAL) & 1;
            int greater = (turned >>> LESS) & 1;
            return (less << LESS) | (equal << EQUAL) | (greater << GREATER);
        }

        int roundsOf(int step, int what) {
            switch (what) {
                case 0:
                    return valueAt(leastRounds, step);
                case 1:
                    return valueAt(mostRounds, step);
                default:
                    return NONE;
            }
        }

        /* How many ROWS cover all that is begun, and which; the given ones stay if there are none such. */
        int findCover(int[] found) {
            if (begun == 0) {
                return 0;
            }
            int count = gatherCandidates();
            for (int i = 0; i < count; i++) {
                int row = valueAt(candidates, i);
                if (valueAt(rowBegun, row) == begun) {
                    put(found, 0, row);
                    return 1;
                }
            }
            return findPair(count, found);
        }

        /* Of ROWS that go one WAY only the least can be in a cover. */
        private int gatherCandidates() {
            int count = 0;
            for (int row = 0; row < rows && row < MOST_ROWS; row++) {
                boolean isLeast = valueAt(wayLeast, find(rowKeys[row])) == row;
                if (rowBegun[row] != 0 && isLeast && count < MOST_ROWS) {
                    candidates[count] = row;
                    count++;
                }
            }
            return count;
        }

        private int findPair(int count, int[] found) {
            for (int i = 0; i < count; i++) {
                int row = valueAt(candidates, i);
                long missing = begun & ~valueAt(rowBegun, row);
                for (int j = i + 1; j < count; j++) {
                    int other = valueAt(candidates, j);
                    if ((missing & ~valueAt(rowBegun, other)) == 0) {
                        put(found, 0, row);
                        put(found, 1, other);
                        return 2;
                    }
                }
            }
            return NONE;
        }

        private static void put(int[] table, int index, int value) {
            if (index >= 0 && index < table.length) {
                table[index] = value;
            }
        }
    }

    /*
     * PROOFS over parts of the ROWS. A part is told by one digit to the base 3 for each bit of a ROW: 0 or 1 as the
     * bit is, 2 if it may be either. So the halves of a part have lesser numbers than it has.
     */
    private static final class Proofs {
        private static final int[] THREES = {1, 3, 9, 27, 81, 243, 729, 2187, 6561};
        private static final int PARTS = 6561;
        private static final int LONGEST = 511;
        private static final int MOST_PENDING = 16;
        private static final int LEAF = 100;
        private static final int NO_PROOF = 100000;

        private final Sizes sizes;
        private final Machine machine;
        // Bit t: TEST t holds for none of the part's ROWS.
        private final int[] failing = new int[PARTS];
        // Of the part's least PROOF how many bytes of 100 and more, and the first byte.
        private final int[] leaves = new int[PARTS];
        private final int[] first = new int[PARTS];
        private final int[] pending = new int[MOST_PENDING];
        private int waiting;
        private final int[] bytes = new int[LONGEST];
        private int length;

        Proofs(Sizes sizes, Machine machine) {
            this.sizes = sizes;
            this.machine = machine;
        }

        int byteAt(int k) {
            return k >= 0 && k < length && k < bytes.length ? bytes[k] : NONE;
        }

        int find(Code claim) {
            fillFailing(claim);
            int parts = parts();
            for (int part = 0; part < parts && part < PARTS; part++) {
                chooseFirst(part);
            }
            if (valueAt(leaves, parts - 1) >= NO_PROOF) {
                return NONE;
            }
            writeDown(parts - 1);
            return length;
        }

        /* The place of the first byte that no PROOF can have there; NONE if all are as a PROOF has them. */
        int firstWrong(Code claim, Tape tape) {
            fillFailing(claim);
            waiting = 0;
            push(parts() - 1);
            for (int place = 0; place < tape.size; place++) {
                if (waiting == 0 || !follow(pop(), tape.byteAt(place), claim.tests)) {
                    return place;
                }
            }
            return waiting == 0 ? NONE : tape.size;
        }

        private boolean follow(int part, int given, int tests) {
            if (given >= LEAF) {
                int test = given - LEAF;
                return test < tests && ((valueAt(failing, part) >>> test) & 1) == 1;
            }
            if (given >= sizes.rowBits() || digit(part, given) != 2) {
                return false;
            }
            pushHalves(part, given);
            return true;
        }

        private int parts() {
            return valueAt(THREES, sizes.rowBits());
        }

        private static int three(int bit) {
            return bit >= 0 && bit < THREES.length ? THREES[bit] : 1;
        }

        private static int digit(int part, int bit) {
            int three = three(bit);
            return three > 0 ? part / three % 3 : 0;
        }

        private static int half(int part, int bit, int value) {
            return part - (2 - value) * three(bit);
        }

        private int lowestEither(int part) {
            for (int bit = 0; bit < sizes.rowBits(); bit++) {
                if (digit(part, bit) == 2) {
                    return bit;
                }
            }
            return NONE;
        }

        private int rowOf(int part) {
            int row = 0;
            for (int bit = 0; bit < sizes.rowBits(); bit++) {
                row |= digit(part, bit) << bit;
            }
            return row;
        }

        private void fillFailing(Code claim) {
            int parts = parts();
            for (int part = 0; part < parts && part < PARTS; part++) {
                int bit = lowestEither(part);
                if (bit == NONE) {
                    failing[part] = machine.failingTests(claim, rowOf(part));
                } else {
                    failing[part] = valueAt(failing, half(part, bit, 0)) & valueAt(failing, half(part, bit, 1));
                }
            }
        }

        private void chooseFirst(int part) {
            if (part < 0 || part >= PARTS) {
                return;
            }
            leaves[part] = NO_PROOF;
            first[part] = NONE;
            if (failing[part] != 0) {
                leaves[part] = 1;
                first[part] = LEAF + Integer.numberOfTrailingZeros(failing[part]);
                return;
            }
            for (int bit = 0; bit < sizes.rowBits(); bit++) {
                if (digit(part, bit) == 2) {
                    int both = valueAt(leaves, half(part, bit, 0)) + valueAt(leaves, half(part, bit, 1));
                    if (both < leaves[part]) {
                        leaves[part] = both;
                        first[part] = bit;
                    }
                }
            }
        }

        private void writeDown(int whole) {
            length = 0;
            waiting = 0;
            push(whole);
            for (int i = 0; i < bytes.length && waiting > 0; i++) {
                int part = pop();
                int chosen = valueAt(first, part);
                bytes[i] = chosen;
                length = i + 1;
                if (chosen < LEAF) {
                    pushHalves(part, chosen);
                }
            }
        }

        private void pushHalves(int part, int bit) {
            push(half(part, bit, 1));
            push(half(part, bit, 0));
        }

        private void push(int part) {
            if (waiting >= 0 && waiting < pending.length) {
                pending[waiting] = part;
                waiting++;
            }
        }

        private int pop() {
            if (waiting <= 0 || waiting > pending.length) {
                return 0;
            }
            waiting--;
            return pending[waiting];
        }
    }
}
