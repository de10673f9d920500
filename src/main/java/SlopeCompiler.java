import java.util.Arrays;
import java.util.NoSuchElementException;

/**
 * A compiler of small programs and of their slopes.
 *
 * All rows are made with the object and used again by every call. The RUN is made anew whenever the
 * TEXT or an INPUT changes; what is asked reads it, and what asks "were it so" runs a second machine.
 */
public final class SlopeCompiler {
    public static final int NONE = -1;

    /** The document's second refusal: the things are there, but no answer is. */
    private static final int MISSING = -2;
    /** Refusal where NONE could be taken for a SOURCE or a value. */
    private static final int NO_PLACE = NONE - 9;

    private static final int BYTES = 900;
    private static final int FED_BYTES = 20;
    private static final int INPUTS = 4;
    private static final int VARIABLES = 8;
    private static final int ROWS = 6;
    private static final int ROW_CELLS = 8;
    private static final int BLOCKS = 4;
    private static final int BRACKETS = 8;
    private static final int ROUNDS = 20;
    private static final int GREATEST_NUMBER = 9999;
    private static final int STEPS = 3000;
    private static final int ENTRIES = 400;
    private static final int OUTS = 20;
    private static final int BILLION = 1000000000;

    /** SOURCES: an ENTRY is its own number, an INPUT lies behind 1000. */
    private static final int INPUT_SOURCE = 1000;
    private static final int NO_SOURCE = -2;

    private static final int PUSH = 0;
    private static final int LOAD = 1;
    private static final int FETCH = 2;
    private static final int ADD = 3;
    private static final int SUBTRACT = 4;
    private static final int MULTIPLY = 5;
    private static final int DIVIDE = 6;
    private static final int STORE = 7;
    private static final int PUT = 8;
    private static final int OUT = 9;
    private static final int LOOP = 10;
    private static final int NEXT = 11;
    private static final int TEST_LESS = 12;
    private static final int TEST_ALIKE = 13;
    private static final int JUMP = 14;

    private static final int NEWTON_STEPS = 20;
    private static final int GREATEST_DEGREE = 8;
    private static final int DEGREE_RUNS = 11;
    private static final int BEND_RUNS = 100;
    private static final int LONGEST_TAPE = 400;
    private static final int LONGEST_WALK = 60;
    private static final int MOST_STATES = 20;
    private static final int FRACTION_BOUND = 22360;
    private static final int NO_FRACTION = -30000;
    private static final int NOT_ASKED_SO = -40000;

    private final byte[] bytes = new byte[BYTES];
    private int byteCount;
    private final Parser parser = new Parser(bytes);
    private int faultKind;
    private int faultPlace = NONE;
    private Program program = new Program();
    /** A TEXT is compiled here, so that one with a FAULT leaves the other as it is. */
    private Program spare = new Program();
    private final int[] inputs = new int[INPUTS];
    private final Machine machine = new Machine();
    private final int[] triedInputs = new int[INPUTS];
    private final Machine trial = new Machine();
    private final Slopes slopes = new Slopes();
    private final Matrix matrix = new Matrix();
    private final Walk walk = new Walk();
    private final int[] differences = new int[DEGREE_RUNS];

    public SlopeCompiler() {
    }

    public int feed(int a, int b, int c, int d, int e) {
        if (byteCount + FED_BYTES > BYTES) {
            return NONE;
        }
        appendNumber(a);
        appendNumber(b);
        appendNumber(c);
        appendNumber(d);
        appendNumber(e);
        return byteCount;
    }

    private void appendNumber(int number) {
        for (int shift = 24; shift >= 0 && byteCount < BYTES; shift -= 8) {
            bytes[byteCount] = (byte) (number >>> shift);
            byteCount++;
        }
    }

    public int text(int n) {
        if (n < 0 || n > byteCount) {
            return MISSING;
        }
        byteCount = 0;
        boolean good = parser.compile(n, spare);
        faultKind = parser.faultKind;
        faultPlace = parser.faultPlace;
        if (!good) {
            return NONE;
        }
        Program old = program;
        program = spare;
        spare = old;
        Arrays.fill(inputs, 0);
        machine.execute(program, inputs);
        return program.lines;
    }

    public int fault(int what) {
        switch (what) {
            case 0:
                return faultKind;
            case 1:
                return faultPlace;
            default:
                return NONE;
        }
    }

    public int set(int i, int a, int b) {
        if (!hasInput(i) || a < -BILLION || a > BILLION || b < 1 || b > BILLION) {
            return NONE;
        }
        int before = inputs[i];
        inputs[i] = Numbers.times(Numbers.of(a), Numbers.inverse(Numbers.of(b)));
        machine.execute(program, inputs);
        return before;
    }

    public int code(int i, int what) throws IndexOutOfBoundsException, NoSuchElementException {
        if (i < 0 || i >= program.length) {
            throw new IndexOutOfBoundsException("no such instruction");
        }
        switch (what) {
            case 0:
                return program.kindAt(i);
            case 1:
                return program.operandAt(i);
            case 2:
                return program.roundsAt(i);
            default:
                throw new NoSuchElementException("no such what");
        }
    }

    public int row(int r, int what) {
        if (r < 0 || r >= program.rows) {
            return NONE;
        }
        switch (what) {
            case 0:
                return program.rowSize[r];
            case 1:
                return program.rowFirst[r];
            case 2:
                return program.rowsThatShare(r);
            default:
                return NONE;
        }
    }

    public int variable(int v, int what) {
        return read(machine.variables, v, what);
    }

    public int cell(int c, int what) {
        return read(machine.cells, c, what);
    }

    public int out(int k, int what) {
        return read(machine.outs, k, what);
    }

    private static int read(Slots slots, int i, int what) {
        if (i < 0 || i >= slots.size) {
            return NO_PLACE;
        }
        switch (what) {
            case 0:
                return slots.valueAt(i);
            case 1:
                return slots.sourceAt(i);
            default:
                return NO_PLACE;
        }
    }

    public int run(int what) {
        switch (what) {
            case 0:
                return machine.stop;
            case 1:
                return machine.stop == 0 ? MISSING : machine.at;
            case 2:
                return machine.done;
            case 3:
                return machine.outs.size;
            case 4:
                return machine.tape.length;
            case 5:
                return machine.tests.length;
            case 6:
                return machine.tests.so;
            default:
                return NONE;
        }
    }

    public int path(int k) {
        if (k < 0) {
            return NONE;
        }
        return k < machine.tests.length ? machine.tests.answerAt(k) : MISSING;
    }

    public int entry(int e, int what) {
        if (!hasEntry(e)) {
            return NO_PLACE;
        }
        Tape tape = machine.tape;
        switch (what) {
            case 0:
                return tape.kind[e];
            case 1:
                return tape.value[e];
            case 2:
                return tape.left[e];
            case 3:
                return tape.right[e];
            case 4:
                return tape.leftSource[e];
            case 5:
                return tape.rightSource[e];
            case 6:
                return tape.instruction[e];
            case 7:
                return outsThatHangOn(e);
            case 8:
                return tape.inputBits[e];
            default:
                return NO_PLACE;
        }
    }

    private int outsThatHangOn(int e) {
        machine.tape.markForward(e);
        int found = 0;
        for (int k = 0; k < machine.outs.size; k++) {
            if (machine.tape.isMarked(machine.outs.sourceAt(k))) {
                found++;
            }
        }
        return found;
    }

    public int slope(int k, int i) {
        if (!hasOut(k) || !hasInput(i)) {
            return NONE;
        }
        return slopes.once(machine.tape, machine.outs.sourceAt(k), INPUT_SOURCE + i);
    }

    public int bar(int k, int e) {
        if (!hasOut(k) || !hasEntry(e)) {
            return NONE;
        }
        return slopes.once(machine.tape, machine.outs.sourceAt(k), e);
    }

    public int second(int k, int i, int j) {
        if (!hasOut(k) || !hasInput(i) || !hasInput(j)) {
            return NONE;
        }
        return secondSlope(k, i, j);
    }

    private int secondSlope(int k, int i, int j) {
        return slopes.twice(machine.tape, machine.outs.sourceAt(k), INPUT_SOURCE + i, INPUT_SOURCE + j);
    }

    public int turned(int k, int i, int d0, int d1, int d2, int d3) {
        if (!hasOut(k) || !hasInput(i)) {
            return NONE;
        }
        int sum = 0;
        for (int j = 0; j < program.inputs; j++) {
            int d = j == 0 ? d0 : j == 1 ? d1 : j == 2 ? d2 : d3;
            sum = Numbers.plus(sum, Numbers.times(secondSlope(k, i, j), Numbers.of(d)));
        }
        return sum;
    }

    public int determinant(int n) {
        if (n < 1 || n > INPUTS || n > machine.outs.size || n > program.inputs) {
            return NONE;
        }
        fillMatrix(n, n);
        matrix.eliminate(n, n);
        return matrix.pivots == n ? matrix.product : 0;
    }

    public int rank() {
        fillMatrix(machine.outs.size, program.inputs);
        matrix.eliminate(machine.outs.size, program.inputs);
        return matrix.pivots;
    }

    private void fillMatrix(int outCount, int inputCount) {
        for (int i = 0; i < inputCount; i++) {
            slopes.fillFirst(machine.tape, INPUT_SOURCE + i);
            for (int k = 0; k < outCount; k++) {
                matrix.put(k, i, slopes.firstOf(machine.outs.sourceAt(k), INPUT_SOURCE + i));
            }
        }
    }

    public int newton(int k, int i, int n) {
        if (!hasOut(k) || !hasInput(i) || n < 1 || n > NEWTON_STEPS) {
            return NONE;
        }
        int x = inputs[i];
        for (int step = 0; step < n; step++) {
            tryInput(i, x);
            if (k >= trial.outs.size) {
                return MISSING;
            }
            int slope = slopes.once(trial.tape, trial.outs.sourceAt(k), INPUT_SOURCE + i);
            if (slope == 0) {
                return MISSING;
            }
            x = Numbers.minus(x, Numbers.times(trial.outs.valueAt(k), Numbers.inverse(slope)));
        }
        return x;
    }

    /** Lets the trial machine run as if INPUT i were x; the RUN itself stays. */
    private void tryInput(int i, int x) {
        System.arraycopy(inputs, 0, triedInputs, 0, INPUTS);
        if (i >= 0 && i < INPUTS) {
            triedInputs[i] = x;
        }
        trial.execute(program, triedInputs);
    }

    public int change(int k, int i, int d) {
        if (!hasOut(k) || !hasInput(i) || d < -BILLION || d > BILLION) {
            return NONE;
        }
        tryInput(i, Numbers.plus(inputs[i], Numbers.of(d)));
        if (k >= trial.outs.size) {
            return MISSING;
        }
        return Numbers.minus(trial.outs.valueAt(k), machine.outs.valueAt(k));
    }

    public int degree(int k, int i) {
        if (!hasOut(k) || !hasInput(i)) {
            return NONE;
        }
        for (int d = 0; d < DEGREE_RUNS; d++) {
            tryInput(i, Numbers.plus(inputs[i], d));
            if (k >= trial.outs.size) {
                return MISSING;
            }
            differences[d] = trial.outs.valueAt(k);
        }
        for (int n = 0; n <= GREATEST_DEGREE; n++) {
            if (takeDifferences(DEGREE_RUNS - 1 - n)) {
                return n;
            }
        }
        return MISSING;
    }

    /** Puts the differences of neighbours in their places: whether all of the first ones are 0. */
    private boolean takeDifferences(int left) {
        boolean allZero = true;
        for (int d = 0; d < left && d + 1 < DEGREE_RUNS; d++) {
            differences[d] = Numbers.minus(differences[d + 1], differences[d]);
            allZero = allZero && differences[d] == 0;
        }
        return allZero;
    }

    public int bends(int i) {
        if (!hasInput(i)) {
            return NONE;
        }
        // Without a TEST every PATH is empty: a hundred RUNS are spared.
        if (!program.hasTest()) {
            return MISSING;
        }
        for (int d = 1; d <= BEND_RUNS; d++) {
            tryInput(i, Numbers.plus(inputs[i], d));
            if (!machine.tests.isLike(trial.tests)) {
                return d;
            }
        }
        return MISSING;
    }

    public int hangs(int k, int i, int what) {
        if (!hasOut(k) || what < 0 || what > 1 || what == 1 && !hasInput(i)) {
            return NONE;
        }
        machine.tape.markBack(machine.outs.sourceAt(k));
        int found = 0;
        for (int e = 0; e < machine.tape.length; e++) {
            if (machine.tape.isMarked(e) && (what == 0 || (machine.tape.inputBits[e] & 1 << i) != 0)) {
                found++;
            }
        }
        return found;
    }

    public int back(int k, int i) {
        if (!hasOut(k) || i < 0) {
            return NONE;
        }
        machine.tape.markBack(machine.outs.sourceAt(k));
        int passed = 0;
        for (int e = machine.tape.length - 1; e >= 0; e--) {
            if (machine.tape.isMarked(e)) {
                if (passed == i) {
                    return e;
                }
                passed++;
            }
        }
        return MISSING;
    }

    public int cost(int way, int which) {
        if (way == 0 && hasInput(which)) {
            return costForward(1 << which);
        }
        if (way == 1 && hasOut(which)) {
            return costBackward(which);
        }
        return NONE;
    }

    private int costForward(int inputBit) {
        int sum = 0;
        for (int e = 0; e < machine.tape.length; e++) {
            sum += machine.tape.costOf(e, inputBit);
        }
        return sum;
    }

    private int costBackward(int k) {
        int allInputs = (1 << INPUTS) - 1;
        machine.tape.markBack(machine.outs.sourceAt(k));
        int sum = 0;
        for (int e = 0; e < machine.tape.length; e++) {
            if (machine.tape.isMarked(e)) {
                sum += machine.tape.costOf(e, allInputs);
            }
        }
        return sum;
    }

    public int few(int l, int c) {
        if (l < 1 || l > LONGEST_TAPE || c < 0 || c > MOST_STATES) {
            return NONE;
        }
        return Walk.fewest(l, c);
    }

    public int split(int l, int c) {
        if (l < 2 || l > LONGEST_TAPE || c < 1 || c > MOST_STATES) {
            return NONE;
        }
        return Walk.firstCut(l, c);
    }

    public int states(int l, int n) {
        if (l < 1 || l > LONGEST_TAPE || n < 0) {
            return NONE;
        }
        for (int c = 0; c <= MOST_STATES; c++) {
            if (Walk.fewest(l, c) <= n) {
                return c;
            }
        }
        return MISSING;
    }

    public int action(int l, int c, int n, int what) {
        if (l < 1 || l > LONGEST_WALK || c < 0 || c > MOST_STATES || n < 0 || what < 0 || what > 2) {
            return NONE;
        }
        walk.start(n);
        walk.lay(0, l, c);
        if (n >= walk.length) {
            return MISSING;
        }
        return what == 0 ? walk.kind : what == 1 ? walk.from : walk.to;
    }

    public int actions(int l, int c, int what) {
        if (l < 1 || l > LONGEST_WALK || c < 0 || c > MOST_STATES || what < 0 || what > 2) {
            return NONE;
        }
        walk.start(NONE);
        walk.lay(0, l, c);
        return what == 0 ? walk.length : what == 1 ? walk.gone : walk.mostKept;
    }

    public int fraction(int v, int what) {
        if (v < 0 || v >= Numbers.P || what < 0 || what > 1) {
            return NOT_ASKED_SO;
        }
        int product = 0;
        for (int d = 1; d <= FRACTION_BOUND; d++) {
            product = Numbers.plus(product, v);
            int top = Numbers.signed(product);
            if (top >= -FRACTION_BOUND && top <= FRACTION_BOUND) {
                return what == 0 ? top : d;
            }
        }
        return NO_FRACTION;
    }

    public int count(int what) {
        switch (what) {
            case 0:
                return program.lines;
            case 1:
                return program.inputs;
            case 2:
                return program.variables;
            case 3:
                return program.rows;
            case 4:
                return program.cells;
            case 5:
                return program.length;
            case 6:
                return byteCount;
            default:
                return NONE;
        }
    }

    private boolean hasInput(int i) {
        return i >= 0 && i < program.inputs && i < INPUTS;
    }

    private boolean hasOut(int k) {
        return k >= 0 && k < machine.outs.size;
    }

    private boolean hasEntry(int e) {
        return e >= 0 && e < machine.tape.length && e < ENTRIES;
    }

    /** NUMBERS: what is left by P. Every argument but that of of() is a NUMBER already. */
    private static final class Numbers {
        static final int P = 1000000007;
        private static final int GREATEST_SIGNED = 500000003;

        private Numbers() {
        }

        static int of(int n) {
            int left = n % P;
            return left < 0 ? left + P : left;
        }

        static int plus(int a, int b) {
            int sum = a + b;
            return sum >= P ? sum - P : sum;
        }

        static int minus(int a, int b) {
            int difference = a - b;
            return difference < 0 ? difference + P : difference;
        }

        static int times(int a, int b) {
            return (int) ((long) a * b % P);
        }

        /** By Fermat: P is prime, so b to the power P less 2 times b is 1 (and 0 answers 0). */
        static int inverse(int b) {
            long power = b;
            long answer = 1;
            for (int rest = P - 2; rest > 0; rest >>= 1) {
                if ((rest & 1) != 0) {
                    answer = answer * power % P;
                }
                power = power * power % P;
            }
            return (int) answer;
        }

        static int signed(int a) {
            return a > GREATEST_SIGNED ? a - P : a;
        }
    }

    /** What a TEXT is compiled to. */
    private static final class Program {
        /** An instruction is one number, its operand highest, then N of LOOP, then which it is. */
        private final int[] instructions = new int[BYTES];
        int length;
        int lines;
        int inputs;
        int variables;
        int rows;
        int cells;
        final int[] rowFirst = new int[ROWS];
        final int[] rowSize = new int[ROWS];

        void clear() {
            length = 0;
            lines = 0;
            inputs = 0;
            variables = 0;
            rows = 0;
            cells = 0;
        }

        /** There is room always: an instruction takes at least one byte of the TEXT. */
        void emit(int kind, int operand, int rounds) {
            if (length < BYTES) {
                instructions[length] = operand << 10 | rounds << 4 | kind;
                length++;
            }
        }

        /** Lets the instruction lead on to the one that comes next. */
        void leadHere(int i) {
            if (i >= 0 && i < length) {
                instructions[i] = length << 10 | instructions[i] & 1023;
            }
        }

        int kindAt(int i) {
            return i >= 0 && i < length ? instructions[i] & 15 : NONE;
        }

        int operandAt(int i) {
            return i >= 0 && i < length ? instructions[i] >> 10 : 0;
        }

        int roundsAt(int i) {
            return i >= 0 && i < length ? instructions[i] >> 4 & 63 : 0;
        }

        void addRow(int first, int size) {
            if (rows < ROWS) {
                rowFirst[rows] = first;
                rowSize[rows] = size;
                rows++;
            }
        }

        int rowsThatShare(int r) {
            int found = 0;
            for (int other = 0; other < rows && r >= 0 && r < rows; other++) {
                if (rowFirst[other] < rowFirst[r] + rowSize[r] && rowFirst[r] < rowFirst[other] + rowSize[other]) {
                    found++;
                }
            }
            return found;
        }

        /** The number of the CELL that is the i-th of a ROW; NONE: there is none such. */
        int cellOf(int r, int i) {
            if (r < 0 || r >= rows || i < 0 || i >= rowSize[r]) {
                return NONE;
            }
            return rowFirst[r] + i;
        }

        boolean hasTest() {
            for (int i = 0; i < length; i++) {
                int kind = kindAt(i);
                if (kind == TEST_LESS || kind == TEST_ALIKE) {
                    return true;
                }
            }
            return false;
        }
    }

    /** Reads TOKENS along the TEXT, one at a time. */
    private static final class Scanner {
        static final int END = 0;
        static final int WORD = 1;
        static final int NUMBER = 2;
        /** Any other byte: one that is no TOKEN is a SIGN for which nobody asks. */
        static final int SIGN = 3;

        /** A word is the number that its letters make, five bits each; here are the language's own. */
        static final int WORD_IN = 'i' - 96 << 5 | 'n' - 96;
        static final int WORD_IF = 'i' - 96 << 5 | 'f' - 96;
        static final int WORD_ROW = ('r' - 96 << 5 | 'o' - 96) << 5 | 'w' - 96;
        static final int WORD_END = ('e' - 96 << 5 | 'n' - 96) << 5 | 'd' - 96;
        static final int WORD_OUT = ('o' - 96 << 5 | 'u' - 96) << 5 | 't' - 96;
        static final int WORD_LOOP = ('l' - 96 << 5 | 'o' - 96) << 10 | 'o' - 96 << 5 | 'p' - 96;
        static final int WORD_ELSE = ('e' - 96 << 5 | 'l' - 96) << 10 | 's' - 96 << 5 | 'e' - 96;
        static final int WORD_ALIAS = (('a' - 96 << 5 | 'l' - 96) << 5 | 'i' - 96) << 10 | 'a' - 96 << 5 | 's' - 96;
        /** The number of words that are too long to have one. */
        static final int NO_WORD = 0;
        private static final int LONGEST_NAME = 4;
        private static final int LONGEST_WORD = 5;

        private final byte[] bytes;
        private int length;
        private int position;
        int kind;
        /** A word's number, a number (10000 for all that are greater), a sign's byte. */
        int value;
        int place;

        Scanner(byte[] bytes) {
            this.bytes = bytes;
        }

        void start(int n) {
            length = n < bytes.length ? n : bytes.length;
            position = 0;
            advance();
        }

        void advance() {
            while (position < length && (bytes[position] == 32 || bytes[position] == 10)) {
                position++;
            }
            place = position;
            value = 0;
            if (position >= length) {
                kind = END;
            } else if (bytes[position] >= 'a' && bytes[position] <= 'z') {
                kind = WORD;
                while (position < length && bytes[position] >= 'a' && bytes[position] <= 'z') {
                    value = value << 5 | bytes[position] - 96;
                    position++;
                }
                value = position - place > LONGEST_WORD ? NO_WORD : value;
            } else if (bytes[position] >= '0' && bytes[position] <= '9') {
                kind = NUMBER;
                while (position < length && bytes[position] >= '0' && bytes[position] <= '9') {
                    value = value * 10 + bytes[position] - '0';
                    value = value > GREATEST_NUMBER ? GREATEST_NUMBER + 1 : value;
                    position++;
                }
            } else {
                kind = SIGN;
                value = bytes[position];
                position++;
            }
        }

        /** Whether the TOKEN is a W. */
        boolean isName() {
            if (kind != WORD || position - place > LONGEST_NAME) {
                return false;
            }
            switch (value) {
                case WORD_IN:
                case WORD_IF:
                case WORD_ROW:
                case WORD_END:
                case WORD_OUT:
                case WORD_LOOP:
                case WORD_ELSE:
                    return false;
                default:
                    return true;
            }
        }

        boolean isSign(char sign) {
            return kind == SIGN && value == sign;
        }

        /** Which instruction an operator's sign is; NONE: it is no operator. */
        int operator() {
            if (kind != SIGN) {
                return NONE;
            }
            switch (value) {
                case '+':
                    return ADD;
                case '-':
                    return SUBTRACT;
                case '*':
                    return MULTIPLY;
                case '/':
                    return DIVIDE;
                default:
                    return NONE;
            }
        }
    }

    /**
     * Compiles a TEXT in one way along it. Each method takes what it is named after, from the present TOKEN
     * on, and answers whether it went well; a FAULT is always one of the present TOKEN.
     */
    private static final class Parser {
        private static final int NOT_HERE = 1;
        private static final int TOO_MUCH = 2;
        private static final int TOLD_ALREADY = 3;

        private static final int IN_LOOP = 0;
        private static final int IN_IF = 1;
        private static final int IN_ELSE = 2;

        private final Scanner scanner;
        private Program program;
        private final int[] variableNames = new int[VARIABLES];
        private final int[] rowNames = new int[ROWS];
        private final int[] blockKind = new int[BLOCKS];
        /** The LOOP, the TEST or the JUMP that the block began with. */
        private final int[] blockStart = new int[BLOCKS];
        private int blocks;
        /** Whether a LINE has come behind which in, row and alias are too late. */
        private boolean late;
        int faultKind;
        int faultPlace;

        Parser(byte[] bytes) {
            scanner = new Scanner(bytes);
        }

        boolean compile(int n, Program target) {
            program = target;
            program.clear();
            blocks = 0;
            late = false;
            faultKind = 0;
            faultPlace = NONE;
            scanner.start(n);
            for (int turn = 0; turn < BYTES && scanner.kind != Scanner.END; turn++) {
                if (!line()) {
                    return false;
                }
                if (!scanner.isSign(';')) {
                    return fail(NOT_HERE);
                }
                scanner.advance();
                program.lines++;
            }
            return blocks == 0 || fail(NOT_HERE);
        }

        private boolean fail(int kind) {
            faultKind = kind;
            faultPlace = scanner.place;
            return false;
        }

        private boolean line() {
            int word = scanner.kind == Scanner.WORD ? scanner.value : Scanner.NO_WORD;
            boolean first = word == Scanner.WORD_IN || word == Scanner.WORD_ROW || word == Scanner.WORD_ALIAS;
            if (first && late) {
                return fail(NOT_HERE);
            }
            late = !first;
            switch (word) {
                case Scanner.WORD_IN:
                    return inputLine();
                case Scanner.WORD_ROW:
                    return rowLine();
                case Scanner.WORD_ALIAS:
                    return aliasLine();
                case Scanner.WORD_LOOP:
                    return loopLine();
                case Scanner.WORD_IF:
                    return ifLine();
                case Scanner.WORD_ELSE:
                    return elseLine();
                case Scanner.WORD_END:
                    return endLine();
                case Scanner.WORD_OUT:
                    return outLine();
                default:
                    return scanner.isName() ? assignment() : fail(NOT_HERE);
            }
        }

        private boolean inputLine() {
            if (program.inputs >= INPUTS) {
                return fail(TOO_MUCH);
            }
            scanner.advance();
            if (!newName()) {
                return false;
            }
            variableOf(scanner.value, true);
            program.inputs++;
            scanner.advance();
            return true;
        }

        /** Looks at the present TOKEN and leaves it: a W that has not been told. */
        private boolean newName() {
            if (!scanner.isName()) {
                return fail(NOT_HERE);
            }
            if (variableOf(scanner.value, false) != NONE || rowOf(scanner.value) != NONE) {
                return fail(TOLD_ALREADY);
            }
            return true;
        }

        /** From row or alias on, up to the W, which is left. */
        private boolean newRowName() {
            if (program.rows >= ROWS) {
                return fail(TOO_MUCH);
            }
            scanner.advance();
            return newName();
        }

        private boolean rowLine() {
            if (!newRowName()) {
                return false;
            }
            int name = scanner.value;
            scanner.advance();
            if (!numberWithin(1, ROW_CELLS)) {
                return false;
            }
            addRow(name, program.cells, scanner.value);
            program.cells += scanner.value;
            scanner.advance();
            return true;
        }

        private boolean aliasLine() {
            if (!newRowName()) {
                return false;
            }
            int name = scanner.value;
            scanner.advance();
            int other = scanner.isName() ? rowOf(scanner.value) : NONE;
            if (other < 0 || other >= ROWS) {
                return fail(NOT_HERE);
            }
            scanner.advance();
            if (!numberWithin(0, program.rowSize[other] - 1)) {
                return false;
            }
            addRow(name, program.rowFirst[other] + scanner.value, program.rowSize[other] - scanner.value);
            scanner.advance();
            return true;
        }

        private void addRow(int name, int first, int size) {
            if (program.rows < ROWS) {
                rowNames[program.rows] = name;
                program.addRow(first, size);
            }
        }

        /** Looks at the present TOKEN and leaves it. */
        private boolean numberWithin(int least, int most) {
            if (scanner.kind != Scanner.NUMBER) {
                return fail(NOT_HERE);
            }
            return scanner.value >= least && scanner.value <= most || fail(TOO_MUCH);
        }

        private boolean assignment() {
            int r = rowOf(scanner.value);
            int v = r == NONE ? variableOf(scanner.value, true) : NONE;
            if (r == NONE && v == NONE) {
                return fail(TOO_MUCH);
            }
            scanner.advance();
            if (r != NONE && !bracket('[', ']', 0)) {
                return false;
            }
            if (!scanner.isSign('=')) {
                return fail(NOT_HERE);
            }
            scanner.advance();
            if (!expression(0)) {
                return false;
            }
            program.emit(r == NONE ? STORE : PUT, r == NONE ? v : r, 0);
            return true;
        }

        private boolean loopLine() {
            if (blocks >= BLOCKS) {
                return fail(TOO_MUCH);
            }
            scanner.advance();
            if (!scanner.isName() || rowOf(scanner.value) != NONE) {
                return fail(NOT_HERE);
            }
            int v = variableOf(scanner.value, true);
            if (v == NONE) {
                return fail(TOO_MUCH);
            }
            scanner.advance();
            if (!numberWithin(1, ROUNDS)) {
                return false;
            }
            openBlock(IN_LOOP);
            program.emit(LOOP, v, scanner.value);
            scanner.advance();
            return true;
        }

        /** The block's first instruction is the one that comes next. */
        private void openBlock(int kind) {
            if (blocks >= 0 && blocks < BLOCKS) {
                blockKind[blocks] = kind;
                blockStart[blocks] = program.length;
                blocks++;
            }
        }

        private boolean ifLine() {
            if (blocks >= BLOCKS) {
                return fail(TOO_MUCH);
            }
            scanner.advance();
            if (!expression(0)) {
                return false;
            }
            int test = scanner.isSign('<') ? TEST_LESS : TEST_ALIKE;
            if (test == TEST_ALIKE && !scanner.isSign('=')) {
                return fail(NOT_HERE);
            }
            scanner.advance();
            if (!expression(0)) {
                return false;
            }
            openBlock(IN_IF);
            program.emit(test, 0, 0);
            return true;
        }

        private boolean elseLine() {
            int last = blocks - 1;
            if (last < 0 || last >= BLOCKS || blockKind[last] != IN_IF) {
                return fail(NOT_HERE);
            }
            int test = blockStart[last];
            blockKind[last] = IN_ELSE;
            blockStart[last] = program.length;
            program.emit(JUMP, 0, 0);
            program.leadHere(test);
            scanner.advance();
            return true;
        }

        private boolean endLine() {
            int last = blocks - 1;
            if (last < 0 || last >= BLOCKS) {
                return fail(NOT_HERE);
            }
            if (blockKind[last] == IN_LOOP) {
                program.emit(NEXT, blockStart[last] + 1, 0);
            } else {
                program.leadHere(blockStart[last]);
            }
            blocks = last;
            scanner.advance();
            return true;
        }

        private boolean outLine() {
            scanner.advance();
            if (!expression(0)) {
                return false;
            }
            program.emit(OUT, 0, 0);
            return true;
        }

        /** One sum and one product at most wait for what stands behind them: depth counts open brackets. */
        private boolean expression(int depth) {
            int sum = NONE;
            int product = NONE;
            for (int turn = 0; turn < BYTES; turn++) {
                if (!factor(depth)) {
                    return false;
                }
                if (product != NONE) {
                    program.emit(product, 0, 0);
                    product = NONE;
                }
                int operator = scanner.operator();
                if (operator == MULTIPLY || operator == DIVIDE) {
                    product = operator;
                } else {
                    if (sum != NONE) {
                        program.emit(sum, 0, 0);
                    }
                    if (operator == NONE) {
                        return true;
                    }
                    sum = operator;
                }
                scanner.advance();
            }
            return fail(NOT_HERE);
        }

        private boolean factor(int depth) {
            if (scanner.kind == Scanner.NUMBER) {
                if (scanner.value > GREATEST_NUMBER) {
                    return fail(TOO_MUCH);
                }
                program.emit(PUSH, scanner.value, 0);
                scanner.advance();
                return true;
            }
            if (!scanner.isName()) {
                return bracket('(', ')', depth + 1);
            }
            int r = rowOf(scanner.value);
            int v = variableOf(scanner.value, false);
            if (r == NONE && v == NONE) {
                return fail(NOT_HERE);
            }
            scanner.advance();
            if (r != NONE && !bracket('[', ']', depth + 1)) {
                return false;
            }
            program.emit(r == NONE ? LOAD : FETCH, r == NONE ? v : r, 0);
            return true;
        }

        /** An E in brackets; depth tells how many are open with these (0: these don't count). */
        private boolean bracket(char open, char close, int depth) {
            if (!scanner.isSign(open)) {
                return fail(NOT_HERE);
            }
            if (depth > BRACKETS) {
                return fail(TOO_MUCH);
            }
            scanner.advance();
            if (!expression(depth)) {
                return false;
            }
            if (!scanner.isSign(close)) {
                return fail(NOT_HERE);
            }
            scanner.advance();
            return true;
        }

        private int rowOf(int name) {
            for (int r = 0; r < program.rows && r < ROWS; r++) {
                if (rowNames[r] == name) {
                    return r;
                }
            }
            return NONE;
        }

        /** The VARIABLE of that name, a new one if asked for; NONE: there is none, there is no room. */
        private int variableOf(int name, boolean orNew) {
            int known = program.variables;
            for (int v = 0; v < known && v < VARIABLES; v++) {
                if (variableNames[v] == name) {
                    return v;
                }
            }
            if (!orNew || known < 0 || known >= VARIABLES) {
                return NONE;
            }
            variableNames[known] = name;
            program.variables = known + 1;
            return known;
        }
    }

    /** Values, each with its SOURCE: VARIABLES, CELLS, a stack, OUTS. */
    private static final class Slots {
        /** As many as there can be CELLS; a stack of one E with eight brackets in it takes less. */
        private static final int MOST = ROWS * ROW_CELLS;

        private final int[] values = new int[MOST];
        private final int[] sources = new int[MOST];
        int size;

        void clear(int newSize) {
            size = Math.max(0, Math.min(newSize, MOST));
            for (int i = 0; i < size; i++) {
                values[i] = 0;
                sources[i] = NO_SOURCE;
            }
        }

        int valueAt(int i) {
            return i >= 0 && i < size ? values[i] : 0;
        }

        int sourceAt(int i) {
            return i >= 0 && i < size ? sources[i] : NO_SOURCE;
        }

        void put(int i, int value, int source) {
            if (i >= 0 && i < size) {
                values[i] = value;
                sources[i] = source;
            }
        }

        void add(int value, int source) {
            if (size >= 0 && size < MOST) {
                values[size] = value;
                sources[size] = source;
                size++;
            }
        }

        void drop(int n) {
            size = Math.max(0, size - n);
        }
    }

    /** A PATH: what TESTS came to, 32 of them in each number. */
    private static final class Answers {
        /** A TEST takes three instructions at least. */
        private static final int WORDS = (STEPS / 3 + 31) / 32;

        private final int[] bits = new int[WORDS];
        int length;
        int so;

        void clear() {
            Arrays.fill(bits, 0);
            length = 0;
            so = 0;
        }

        void add(boolean answer) {
            int word = length >> 5;
            if (answer && word >= 0 && word < WORDS) {
                bits[word] |= 1 << (length & 31);
                so++;
            }
            length++;
        }

        int answerAt(int k) {
            int word = k >> 5;
            return word >= 0 && word < WORDS ? bits[word] >>> (k & 31) & 1 : 0;
        }

        boolean isLike(Answers other) {
            if (length != other.length) {
                return false;
            }
            for (int word = 0; word < WORDS; word++) {
                if (bits[word] != other.bits[word]) {
                    return false;
                }
            }
            return true;
        }
    }

    /** The ENTRIES of a RUN. */
    private static final class Tape {
        int length;
        final int[] kind = new int[ENTRIES];
        final int[] instruction = new int[ENTRIES];
        final int[] value = new int[ENTRIES];
        final int[] left = new int[ENTRIES];
        final int[] right = new int[ENTRIES];
        final int[] leftSource = new int[ENTRIES];
        final int[] rightSource = new int[ENTRIES];
        /** What 1 by the second operand is, kept for the SLOPES (DIVIDE alone). */
        final int[] inverse = new int[ENTRIES];
        /** The INPUTS on which the ENTRY HANGS. */
        final int[] inputBits = new int[ENTRIES];
        private final boolean[] marked = new boolean[ENTRIES];

        /** Does an operator on the stack's last two, and leaves its value there with the ENTRY as SOURCE. */
        void enter(int operator, int at, Slots stack) {
            if (length < 0 || length >= ENTRIES) {
                return;
            }
            int e = length;
            kind[e] = operator;
            instruction[e] = at;
            left[e] = stack.valueAt(stack.size - 2);
            leftSource[e] = stack.sourceAt(stack.size - 2);
            right[e] = stack.valueAt(stack.size - 1);
            rightSource[e] = stack.sourceAt(stack.size - 1);
            inverse[e] = operator == DIVIDE ? Numbers.inverse(right[e]) : 0;
            value[e] = result(operator, left[e], right[e], inverse[e]);
            inputBits[e] = bitsOf(leftSource[e]) | bitsOf(rightSource[e]);
            length++;
            stack.drop(2);
            stack.add(value[e], e);
        }

        private static int result(int operator, int a, int b, int inverseOfB) {
            switch (operator) {
                case ADD:
                    return Numbers.plus(a, b);
                case SUBTRACT:
                    return Numbers.minus(a, b);
                case MULTIPLY:
                    return Numbers.times(a, b);
                default:
                    return Numbers.times(a, inverseOfB);
            }
        }

        /** The INPUTS on which a value with this SOURCE HANGS. */
        int bitsOf(int source) {
            if (source >= INPUT_SOURCE) {
                return 1 << source - INPUT_SOURCE;
            }
            return source >= 0 && source < length ? inputBits[source] : 0;
        }

        /** Marks the ENTRIES on which a value with this SOURCE HANGS, and no others. */
        void markBack(int source) {
            unmark();
            mark(source);
            for (int e = Math.min(length, ENTRIES) - 1; e >= 0; e--) {
                if (marked[e]) {
                    mark(leftSource[e]);
                    mark(rightSource[e]);
                }
            }
        }

        /** Marks the ENTRY and those that HANG on it, and no others. */
        void markForward(int entry) {
            unmark();
            mark(entry);
            for (int e = Math.max(entry + 1, 0); e < length && e < ENTRIES; e++) {
                marked[e] = isMarked(leftSource[e]) || isMarked(rightSource[e]);
            }
        }

        private void unmark() {
            for (int e = 0; e < ENTRIES; e++) {
                marked[e] = false;
            }
        }

        private void mark(int source) {
            if (source >= 0 && source < ENTRIES) {
                marked[source] = true;
            }
        }

        boolean isMarked(int source) {
            return source >= 0 && source < ENTRIES && marked[source];
        }

        /** What the ENTRY adds to a COST, if INPUTS with these bits count: alike for both ways. */
        int costOf(int e, int bits) {
            if (e < 0 || e >= length) {
                return 0;
            }
            int byRight = (bitsOf(rightSource[e]) & bits) != 0 ? 1 : 0;
            if (kind[e] == MULTIPLY) {
                return byRight + ((bitsOf(leftSource[e]) & bits) != 0 ? 1 : 0);
            }
            if (kind[e] == DIVIDE && (inputBits[e] & bits) != 0) {
                return 1 + byRight;
            }
            return 0;
        }
    }

    /** Does a RUN, and holds what it came to. */
    private static final class Machine {
        private static final int BY_ZERO = 1;
        private static final int NO_CELL = 2;
        private static final int TOO_LONG = 3;
        private static final int TAPE_FULL = 4;
        private static final int OUTS_FULL = 5;

        private Program program;
        final Slots variables = new Slots();
        final Slots cells = new Slots();
        private final Slots stack = new Slots();
        final Slots outs = new Slots();
        final Tape tape = new Tape();
        final Answers tests = new Answers();
        /** How often each open loop has been through, the outermost first. */
        private final int[] rounds = new int[BLOCKS];
        private int loops;
        int at;
        int done;
        int stop;

        void execute(Program toRun, int[] inputs) {
            program = toRun;
            clear(inputs);
            for (int turn = 0; turn <= STEPS && at < program.length; turn++) {
                stop = reasonToStop(program.kindAt(at));
                if (stop != 0) {
                    return;
                }
                perform(program.kindAt(at), program.operandAt(at));
                done++;
            }
        }

        private void clear(int[] inputs) {
            variables.clear(program.variables);
            for (int i = 0; i < program.inputs && i < inputs.length; i++) {
                variables.put(i, inputs[i], INPUT_SOURCE + i);
            }
            cells.clear(program.cells);
            stack.clear(0);
            outs.clear(0);
            tape.length = 0;
            tests.clear();
            loops = 0;
            at = 0;
            done = 0;
            stop = 0;
        }

        private int reasonToStop(int kind) {
            if (done >= STEPS) {
                return TOO_LONG;
            }
            if (kind == DIVIDE && stack.valueAt(stack.size - 1) == 0) {
                return BY_ZERO;
            }
            if (kind == FETCH && cellAt(stack.size - 1) == NONE || kind == PUT && cellAt(stack.size - 2) == NONE) {
                return NO_CELL;
            }
            if (kind >= ADD && kind <= DIVIDE && tape.length >= ENTRIES) {
                return TAPE_FULL;
            }
            return kind == OUT && outs.size >= OUTS ? OUTS_FULL : 0;
        }

        /** Which CELL of the present instruction's ROW is told by that place on the stack. */
        private int cellAt(int place) {
            return program.cellOf(program.operandAt(at), stack.valueAt(place));
        }

        /** Does the present instruction and goes on to the one that comes then. */
        private void perform(int kind, int operand) {
            int last = stack.size - 1;
            int next = at + 1;
            switch (kind) {
                case PUSH:
                    stack.add(operand, NO_SOURCE);
                    break;
                case LOAD:
                    stack.add(variables.valueAt(operand), variables.sourceAt(operand));
                    break;
                case FETCH:
                    fetch(cellAt(last));
                    break;
                case STORE:
                    variables.put(operand, stack.valueAt(last), stack.sourceAt(last));
                    stack.drop(1);
                    break;
                case PUT:
                    cells.put(cellAt(last - 1), stack.valueAt(last), stack.sourceAt(last));
                    stack.drop(2);
                    break;
                case OUT:
                    outs.add(stack.valueAt(last), stack.sourceAt(last));
                    stack.drop(1);
                    break;
                case LOOP:
                    beginLoop(operand);
                    break;
                case NEXT:
                    next = goesRound(operand - 1) ? operand : next;
                    break;
                case TEST_LESS:
                case TEST_ALIKE:
                    next = isSo(kind) ? next : operand;
                    break;
                case JUMP:
                    next = operand;
                    break;
                default:
                    tape.enter(kind, at, stack);
                    break;
            }
            at = next;
        }

        private void fetch(int cell) {
            stack.drop(1);
            stack.add(cells.valueAt(cell), cells.sourceAt(cell));
        }

        private void beginLoop(int v) {
            variables.put(v, 0, NO_SOURCE);
            if (loops >= 0 && loops < BLOCKS) {
                rounds[loops] = 0;
                loops++;
            }
        }

        /** Counts one more round of the innermost loop, whose LOOP is told: whether another one comes. */
        private boolean goesRound(int loop) {
            int innermost = loops - 1;
            if (innermost < 0 || innermost >= BLOCKS) {
                return false;
            }
            rounds[innermost]++;
            if (rounds[innermost] == program.roundsAt(loop)) {
                loops = innermost;
                return false;
            }
            variables.put(program.operandAt(loop), rounds[innermost], NO_SOURCE);
            return true;
        }

        private boolean isSo(int kind) {
            int a = stack.valueAt(stack.size - 2);
            int b = stack.valueAt(stack.size - 1);
            stack.drop(2);
            boolean answer = kind == TEST_LESS ? Numbers.signed(a) < Numbers.signed(b) : a == b;
            tests.add(answer);
            return answer;
        }
    }

    /** SLOPES of values along a TAPE; what they are taken by, an INPUT or an ENTRY, is told by its SOURCE. */
    private static final class Slopes {
        private final int[] first = new int[ENTRIES];
        private final int[] other = new int[ENTRIES];
        private final int[] both = new int[ENTRIES];

        /** The SLOPE of a value with this SOURCE. */
        int once(Tape tape, int source, int by) {
            fillFirst(tape, by);
            return of(first, source, by);
        }

        void fillFirst(Tape tape, int by) {
            fill(first, tape, by);
        }

        /** As once() would answer, behind fillFirst() with the same SOURCE. */
        int firstOf(int source, int by) {
            return of(first, source, by);
        }

        private static int of(int[] known, int source, int by) {
            if (source == by) {
                return 1;
            }
            return source >= 0 && source < known.length ? known[source] : 0;
        }

        private static void fill(int[] known, Tape tape, int by) {
            for (int e = 0; e < tape.length && e < known.length; e++) {
                int a = of(known, tape.leftSource[e], by);
                int b = of(known, tape.rightSource[e], by);
                known[e] = joined(tape, e, a, b);
            }
        }

        /** The SLOPE of an ENTRY whose operands have the SLOPES a and b. */
        private static int joined(Tape tape, int e, int a, int b) {
            if (e < 0 || e >= ENTRIES) {
                return 0;
            }
            switch (tape.kind[e]) {
                case ADD:
                    return Numbers.plus(a, b);
                case SUBTRACT:
                    return Numbers.minus(a, b);
                case MULTIPLY:
                    return Numbers.plus(Numbers.times(a, tape.right[e]), Numbers.times(tape.left[e], b));
                default:
                    return Numbers.times(Numbers.minus(a, Numbers.times(tape.value[e], b)), tape.inverse[e]);
            }
        }

        /** The SECOND SLOPE of a value with this SOURCE, by two INPUTS. */
        int twice(Tape tape, int source, int by, int thenBy) {
            fill(first, tape, by);
            fill(other, tape, thenBy);
            for (int e = 0; e < tape.length && e < ENTRIES; e++) {
                int a = of(both, tape.leftSource[e], NONE);
                int b = of(both, tape.rightSource[e], NONE);
                both[e] = Numbers.plus(joined(tape, e, a, b), crossed(tape, e, by, thenBy));
            }
            return of(both, source, NONE);
        }

        /** What a SECOND SLOPE has besides: products of one SLOPE by each of the two INPUTS. */
        private int crossed(Tape tape, int e, int by, int thenBy) {
            if (e < 0 || e >= ENTRIES || tape.kind[e] != MULTIPLY && tape.kind[e] != DIVIDE) {
                return 0;
            }
            int b = of(first, tape.rightSource[e], by);
            int thenB = of(other, tape.rightSource[e], thenBy);
            if (tape.kind[e] == MULTIPLY) {
                int a = of(first, tape.leftSource[e], by);
                int thenA = of(other, tape.leftSource[e], thenBy);
                return Numbers.plus(Numbers.times(a, thenB), Numbers.times(thenA, b));
            }
            int products = Numbers.plus(Numbers.times(first[e], thenB), Numbers.times(other[e], b));
            return Numbers.times(Numbers.minus(0, products), tape.inverse[e]);
        }
    }

    /** SLOPES of OUTS (rows) by INPUTS (columns). */
    private static final class Matrix {
        private final int[] numbers = new int[OUTS * INPUTS];
        /** How many rows are left that are not 0: the rank. */
        int pivots;
        /** Their leading numbers' product, less 0 as often as rows were swapped. */
        int product;

        void put(int row, int column, int number) {
            int place = row * INPUTS + column;
            if (place >= 0 && place < numbers.length) {
                numbers[place] = number;
            }
        }

        private int get(int row, int column) {
            int place = row * INPUTS + column;
            return place >= 0 && place < numbers.length ? numbers[place] : 0;
        }

        void eliminate(int rows, int columns) {
            pivots = 0;
            product = 1;
            for (int column = 0; column < columns; column++) {
                int row = firstWith(column, pivots, rows);
                if (row == NONE) {
                    continue;
                }
                if (row != pivots) {
                    swapRows(row, pivots, columns);
                    product = Numbers.minus(0, product);
                }
                product = Numbers.times(product, get(pivots, column));
                clearBelow(pivots, column, rows, columns);
                pivots++;
            }
        }

        private int firstWith(int column, int from, int rows) {
            for (int row = from; row < rows; row++) {
                if (get(row, column) != 0) {
                    return row;
                }
            }
            return NONE;
        }

        private void swapRows(int a, int b, int columns) {
            for (int column = 0; column < columns; column++) {
                int kept = get(a, column);
                put(a, column, get(b, column));
                put(b, column, kept);
            }
        }

        private void clearBelow(int pivot, int column, int rows, int columns) {
            int inverse = Numbers.inverse(get(pivot, column));
            for (int row = pivot + 1; row < rows; row++) {
                int factor = Numbers.times(get(row, column), inverse);
                for (int c = column; c < columns; c++) {
                    put(row, c, Numbers.minus(get(row, c), Numbers.times(factor, get(pivot, c))));
                }
            }
        }
    }

    /** ACTIONS of a way BACKWARD, counted as they are laid; the one that is wanted is kept. */
    private static final class Walk {
        private static final int GO = 0;
        private static final int KEEP = 1;
        private static final int TURN = 2;
        private static final int DROP = 3;

        private int wanted;
        int length;
        int gone;
        private int kept;
        int mostKept;
        int kind;
        int from;
        int to;

        /**
         * FEW without its table: with c states, i times anew reach over C(c + 1 + i, i) ENTRIES, and each time
         * that is not enough does all ENTRIES anew but those. The tests hold it against the document's recursion.
         */
        static int fewest(int l, int c) {
            int sum = 0;
            long reach = 1;
            for (int i = 1; i <= l && reach < l; i++) {
                sum += l - (int) reach;
                reach = reach * (c + 1 + i) / i;
            }
            return sum;
        }

        /** SPLIT. */
        static int firstCut(int l, int c) {
            int least = fewest(l, c);
            for (int j = 1; j < l; j++) {
                if (j + fewest(l - j, c - 1) + fewest(j, c) == least) {
                    return j;
                }
            }
            return 1;
        }

        void start(int wantedAction) {
            wanted = wantedAction;
            length = 0;
            gone = 0;
            kept = 0;
            mostKept = 0;
            kind = NONE;
            from = NONE;
            to = NONE;
        }

        /** ACTIONS from a to b; each level within has one state less, so there are no more levels than states. */
        private void lay(int a, int b, int c) {
            int end = b;
            for (int turn = 0; turn < LONGEST_WALK && c > 0 && end - a > 1; turn++) {
                int there = a + firstCut(end - a, c);
                add(GO, a, there);
                add(KEEP, there, there);
                lay(there, end, c - 1);
                add(DROP, there, there);
                end = there;
            }
            for (int e = end - 1; e >= a; e--) {
                if (e > a) {
                    add(GO, a, e);
                }
                add(TURN, e, e);
            }
        }

        private void add(int newKind, int newFrom, int newTo) {
            if (length == wanted) {
                kind = newKind;
                from = newFrom;
                to = newTo;
            }
            length++;
            gone += newTo - newFrom;
            kept += newKind == KEEP ? 1 : newKind == DROP ? -1 : 0;
            mostKept = Math.max(mostKept, kept);
        }
    }
}
