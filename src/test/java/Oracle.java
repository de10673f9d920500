import java.math.BigInteger;
import java.util.ArrayDeque;
import java.util.ArrayList;
import java.util.Arrays;
import java.util.BitSet;
import java.util.Deque;
import java.util.List;
import java.util.regex.Matcher;
import java.util.regex.Pattern;

/**
 * The document once more, in another way: texts go through states instead of methods, values carry their slopes
 * with them through the run instead of a tape, rows are lists of cells, tables stand where the class has formulas.
 */
final class Oracle {
    static final long P = 1000000007L;
    private static final List<String> LANGUAGE =
            List.of("in", "row", "loop", "if", "else", "end", "out", "alias");
    private static final Pattern TOKENS = Pattern.compile("[a-z]+|[0-9]+|[ \n]+|.", Pattern.DOTALL);

    static final class Fault extends Exception {
        final int kind;
        final int place;

        Fault(int kind, int place) {
            super(null, null, false, false);
            this.kind = kind;
            this.place = place;
        }
    }

    /** A text that has been understood. */
    static final class Compiled {
        final List<int[]> code = new ArrayList<>();
        final List<String> variables = new ArrayList<>();
        final List<String> rowNames = new ArrayList<>();
        final List<int[]> rows = new ArrayList<>();
        int inputs;
        int cells;
        int lines;
    }

    private enum State {
        LINE, IN_W, ROW_W, ROW_N, ALIAS_W, ALIAS_OF, ALIAS_N, LOOP_W, LOOP_N, LINE_END,
        LEFT_BRACKET, ASSIGN_SIGN, OPERAND, ROW_BRACKET, OPERATOR
    }

    private enum Context { LEFT, ASSIGN, IF_FIRST, IF_SECOND, OUT }

    /** Goes along the tokens, one state after another. */
    static final class Reader {
        final Compiled made = new Compiled();
        private State state = State.LINE;
        private Context context;
        private boolean late;
        private String word;
        private int target;
        private boolean targetIsRow;
        private int aliasOf;
        private int test;
        private int row;
        /** Operators and brackets that wait; brackets as "(" or "[r". */
        private final Deque<String> waiting = new ArrayDeque<>();
        private int depth;
        private final Deque<Object[]> blocks = new ArrayDeque<>();

        void read(String text) throws Fault {
            Matcher m = TOKENS.matcher(text);
            while (m.find()) {
                if (!m.group().isBlank() || m.group().charAt(0) != ' ' && m.group().charAt(0) != '\n') {
                    token(m.group(), m.start());
                }
            }
            if (state != State.LINE || !blocks.isEmpty()) {
                throw new Fault(1, text.length());
            }
        }

        private static boolean isW(String t) {
            return t.matches("[a-z]{1,4}") && !LANGUAGE.contains(t);
        }

        private static boolean isNumber(String t) {
            return t.matches("[0-9]+");
        }

        private static int number(String t, int place, long least, long most) throws Fault {
            if (!isNumber(t)) {
                throw new Fault(1, place);
            }
            BigInteger n = new BigInteger(t);
            if (n.compareTo(BigInteger.valueOf(least)) < 0 || n.compareTo(BigInteger.valueOf(most)) > 0) {
                throw new Fault(2, place);
            }
            return n.intValue();
        }

        private void emit(int kind, int operand, int n) {
            made.code.add(new int[] {kind, operand, n});
        }

        private void begin(Context c) {
            context = c;
            depth = 0;
            waiting.clear();
            state = State.OPERAND;
        }

        private void token(String t, int at) throws Fault {
            switch (state) {
                case LINE -> line(t, at);
                case IN_W, ROW_W, ALIAS_W -> newW(t, at);
                case ROW_N -> {
                    int n = number(t, at, 1, 8);
                    int[] cells = new int[n];
                    for (int i = 0; i < n; i++) {
                        cells[i] = made.cells++;
                    }
                    made.rowNames.add(word);
                    made.rows.add(cells);
                    state = State.LINE_END;
                }
                case ALIAS_OF -> {
                    if (!isW(t) || !made.rowNames.contains(t)) {
                        throw new Fault(1, at);
                    }
                    aliasOf = made.rowNames.indexOf(t);
                    state = State.ALIAS_N;
                }
                case ALIAS_N -> {
                    int[] whole = made.rows.get(aliasOf);
                    int n = number(t, at, 0, whole.length - 1);
                    made.rowNames.add(word);
                    made.rows.add(Arrays.copyOfRange(whole, n, whole.length));
                    state = State.LINE_END;
                }
                case LOOP_W -> {
                    if (!isW(t) || made.rowNames.contains(t)) {
                        throw new Fault(1, at);
                    }
                    target = variable(t, at);
                    state = State.LOOP_N;
                }
                case LOOP_N -> {
                    int n = number(t, at, 1, 20);
                    blocks.push(new Object[] {"loop", made.code.size()});
                    emit(10, target, n);
                    state = State.LINE_END;
                }
                case LINE_END -> {
                    if (!t.equals(";")) {
                        throw new Fault(1, at);
                    }
                    made.lines++;
                    state = State.LINE;
                }
                case LEFT_BRACKET -> {
                    if (!t.equals("[")) {
                        throw new Fault(1, at);
                    }
                    begin(Context.LEFT);
                }
                case ASSIGN_SIGN -> {
                    if (!t.equals("=")) {
                        throw new Fault(1, at);
                    }
                    begin(Context.ASSIGN);
                }
                case OPERAND -> operand(t, at);
                case ROW_BRACKET -> {
                    if (!t.equals("[")) {
                        throw new Fault(1, at);
                    }
                    open("[" + row, at);
                }
                case OPERATOR -> operator(t, at);
            }
        }

        private int variable(String t, int at) throws Fault {
            if (!made.variables.contains(t)) {
                if (made.variables.size() == 8) {
                    throw new Fault(2, at);
                }
                made.variables.add(t);
            }
            return made.variables.indexOf(t);
        }

        private void newW(String t, int at) throws Fault {
            if (!isW(t)) {
                throw new Fault(1, at);
            }
            if (made.variables.contains(t) || made.rowNames.contains(t)) {
                throw new Fault(3, at);
            }
            word = t;
            if (state == State.IN_W) {
                made.variables.add(t);
                made.inputs++;
                state = State.LINE_END;
            } else {
                state = state == State.ROW_W ? State.ROW_N : State.ALIAS_OF;
            }
        }

        private void line(String t, int at) throws Fault {
            boolean declares = List.of("in", "row", "alias").contains(t);
            if (declares && late) {
                throw new Fault(1, at);
            }
            if (t.equals("in") && made.inputs == 4 || declares && !t.equals("in") && made.rows.size() == 6) {
                throw new Fault(2, at);
            }
            late = late || !declares;
            if ((t.equals("loop") || t.equals("if")) && blocks.size() == 4) {
                throw new Fault(2, at);
            }
            switch (t) {
                case "in" -> state = State.IN_W;
                case "row" -> state = State.ROW_W;
                case "alias" -> state = State.ALIAS_W;
                case "loop" -> state = State.LOOP_W;
                case "if" -> begin(Context.IF_FIRST);
                case "out" -> begin(Context.OUT);
                case "else" -> {
                    if (blocks.isEmpty() || !blocks.peek()[0].equals("if")) {
                        throw new Fault(1, at);
                    }
                    int testAt = (Integer) blocks.pop()[1];
                    blocks.push(new Object[] {"else", made.code.size()});
                    emit(14, 0, 0);
                    made.code.get(testAt)[1] = made.code.size();
                    state = State.LINE_END;
                }
                case "end" -> {
                    if (blocks.isEmpty()) {
                        throw new Fault(1, at);
                    }
                    Object[] block = blocks.pop();
                    int start = (Integer) block[1];
                    if (block[0].equals("loop")) {
                        emit(11, start + 1, 0);
                    } else {
                        made.code.get(start)[1] = made.code.size();
                    }
                    state = State.LINE_END;
                }
                default -> {
                    if (!isW(t)) {
                        throw new Fault(1, at);
                    }
                    targetIsRow = made.rowNames.contains(t);
                    target = targetIsRow ? made.rowNames.indexOf(t) : variable(t, at);
                    state = targetIsRow ? State.LEFT_BRACKET : State.ASSIGN_SIGN;
                }
            }
        }

        private void open(String bracket, int at) throws Fault {
            if (depth == 8) {
                throw new Fault(2, at);
            }
            depth++;
            waiting.push(bracket);
            state = State.OPERAND;
        }

        private void operand(String t, int at) throws Fault {
            if (t.equals("(")) {
                open("(", at);
            } else if (isNumber(t)) {
                emit(0, number(t, at, 0, 9999), 0);
                state = State.OPERATOR;
            } else if (isW(t) && made.rowNames.contains(t)) {
                row = made.rowNames.indexOf(t);
                state = State.ROW_BRACKET;
            } else if (isW(t) && made.variables.contains(t)) {
                emit(1, made.variables.indexOf(t), 0);
                state = State.OPERATOR;
            } else {
                throw new Fault(1, at);
            }
        }

        private static int strength(String operator) {
            return operator.matches("[*/]") ? 2 : operator.matches("[-+]") ? 1 : 0;
        }

        private void flush(int least) {
            while (!waiting.isEmpty() && strength(waiting.peek()) >= least) {
                emit(3 + "+-*/".indexOf(waiting.pop()), 0, 0);
            }
        }

        private void operator(String t, int at) throws Fault {
            if (strength(t) > 0) {
                flush(strength(t));
                waiting.push(t);
                state = State.OPERAND;
                return;
            }
            if (depth > 0) {
                flush(1);
                String bracket = waiting.pop();
                if (!t.equals(bracket.equals("(") ? ")" : "]")) {
                    throw new Fault(1, at);
                }
                if (!bracket.equals("(")) {
                    emit(2, Integer.parseInt(bracket.substring(1)), 0);
                }
                depth--;
                return;
            }
            flush(1);
            ended(t, at);
        }

        private void ended(String t, int at) throws Fault {
            switch (context) {
                case LEFT -> {
                    if (!t.equals("]")) {
                        throw new Fault(1, at);
                    }
                    state = State.ASSIGN_SIGN;
                }
                case IF_FIRST -> {
                    if (!t.equals("<") && !t.equals("=")) {
                        throw new Fault(1, at);
                    }
                    test = t.equals("<") ? 12 : 13;
                    begin(Context.IF_SECOND);
                }
                default -> {
                    if (!t.equals(";")) {
                        throw new Fault(1, at);
                    }
                    if (context == Context.ASSIGN) {
                        emit(targetIsRow ? 8 : 7, target, 0);
                    } else if (context == Context.OUT) {
                        emit(9, 0, 0);
                    } else {
                        blocks.push(new Object[] {"if", made.code.size()});
                        emit(test, 0, 0);
                    }
                    made.lines++;
                    state = State.LINE;
                }
            }
        }
    }

    /** A value that knows its slopes. */
    static final class Value {
        final long n;
        final int source;
        final long[] slope = new long[4];
        final long[][] second = new long[4][4];
        final long[] bars;
        final BitSet entries = new BitSet();
        int inputBits;

        Value(long n, int source, int bars) {
            this.n = n;
            this.source = source;
            this.bars = new long[bars];
        }
    }

    static long mod(long n) {
        return Math.floorMod(n, P);
    }

    static long inverse(long n) {
        return BigInteger.valueOf(n).modInverse(BigInteger.valueOf(P)).longValue();
    }

    static long signed(long n) {
        return n > 500000003 ? n - P : n;
    }

    static Value join(int kind, Value a, Value b, int entry) {
        long r = kind == 6 ? inverse(b.n) : 0;
        long n = kind == 3 ? a.n + b.n : kind == 4 ? a.n - b.n : kind == 5 ? a.n * b.n : a.n * r;
        Value q = new Value(mod(n), entry, entry + 1);
        for (int i = 0; i < 4; i++) {
            q.slope[i] = joinSlopes(kind, a.n, b.n, q.n, a.slope[i], b.slope[i]);
        }
        for (int i = 0; i < 4; i++) {
            for (int j = 0; j < 4; j++) {
                long s = a.second[i][j];
                long t = b.second[i][j];
                if (kind == 3 || kind == 4) {
                    q.second[i][j] = mod(kind == 3 ? s + t : s - t);
                } else if (kind == 5) {
                    q.second[i][j] = mod(mod(s * b.n) + mod(a.slope[i] * b.slope[j])
                            + mod(a.slope[j] * b.slope[i]) + mod(a.n * t));
                } else {
                    // a second slope of the quotient by its textbook form, from a and b alone
                    long r2 = mod(r * r);
                    long r3 = mod(r2 * r);
                    q.second[i][j] = mod(mod(s * r) - mod(mod(a.slope[i] * b.slope[j]) * r2)
                            - mod(mod(a.slope[j] * b.slope[i]) * r2) - mod(mod(a.n * t) * r2)
                            + mod(mod(2 * a.n * mod(b.slope[i] * b.slope[j]) % P) * r3));
                }
            }
        }
        for (int e = 0; e < entry; e++) {
            long s = e < a.bars.length ? a.bars[e] : 0;
            long t = e < b.bars.length ? b.bars[e] : 0;
            q.bars[e] = joinSlopes(kind, a.n, b.n, q.n, s, t);
        }
        q.bars[entry] = 1;
        q.entries.or(a.entries);
        q.entries.or(b.entries);
        q.entries.set(entry);
        q.inputBits = a.inputBits | b.inputBits;
        return q;
    }

    private static long joinSlopes(int kind, long a, long b, long q, long s, long t) {
        switch (kind) {
            case 3:
                return mod(s + t);
            case 4:
                return mod(s - t);
            case 5:
                return mod(mod(s * b) + mod(a * t));
            default:
                return mod(mod(s - mod(q * t)) * inverse(b));
        }
    }

    /** One run, all that it did. */
    static final class Run {
        final Value[] variables;
        final Value[] cells;
        final List<Value> outs = new ArrayList<>();
        final List<Value> tape = new ArrayList<>();
        final List<Value[]> operands = new ArrayList<>();
        final List<int[]> kinds = new ArrayList<>();
        final List<Boolean> path = new ArrayList<>();
        int stop;
        int at;
        int done;

        Run(Compiled c, long[] inputs) {
            Value zero = new Value(0, -2, 0);
            variables = new Value[c.variables.size()];
            Arrays.fill(variables, zero);
            for (int i = 0; i < c.inputs; i++) {
                variables[i] = new Value(inputs[i], 1000 + i, 0);
                variables[i].slope[i] = 1;
                variables[i].inputBits = 1 << i;
            }
            cells = new Value[c.cells];
            Arrays.fill(cells, zero);
            go(c);
        }

        private void go(Compiled c) {
            Deque<Value> stack = new ArrayDeque<>();
            int[] through = new int[c.code.size()];
            while (at < c.code.size()) {
                int[] i = c.code.get(at);
                if (done == 3000) {
                    stop = 3;
                    return;
                }
                int next = at + 1;
                switch (i[0]) {
                    case 0 -> stack.push(new Value(i[1], -2, 0));
                    case 1 -> stack.push(variables[i[1]]);
                    case 2 -> {
                        if (stack.peek().n >= c.rows.get(i[1]).length) {
                            stop = 2;
                            return;
                        }
                        stack.push(cells[c.rows.get(i[1])[(int) stack.pop().n]]);
                    }
                    case 3, 4, 5, 6 -> {
                        if (i[0] == 6 && stack.peek().n == 0) {
                            stop = 1;
                            return;
                        }
                        if (tape.size() == 400) {
                            stop = 4;
                            return;
                        }
                        Value b = stack.pop();
                        Value a = stack.pop();
                        Value q = join(i[0], a, b, tape.size());
                        tape.add(q);
                        operands.add(new Value[] {a, b});
                        kinds.add(new int[] {i[0], at});
                        stack.push(q);
                    }
                    case 7 -> variables[i[1]] = stack.pop();
                    case 8 -> {
                        Value what = stack.pop();
                        if (stack.peek().n >= c.rows.get(i[1]).length) {
                            stop = 2;
                            return;
                        }
                        cells[c.rows.get(i[1])[(int) stack.pop().n]] = what;
                    }
                    case 9 -> {
                        if (outs.size() == 20) {
                            stop = 5;
                            return;
                        }
                        outs.add(stack.pop());
                    }
                    case 10 -> {
                        variables[i[1]] = new Value(0, -2, 0);
                        through[at] = 0;
                    }
                    case 11 -> {
                        int[] loop = c.code.get(i[1] - 1);
                        int n = ++through[i[1] - 1];
                        if (n != loop[2]) {
                            variables[loop[1]] = new Value(n, -2, 0);
                            next = i[1];
                        }
                    }
                    case 12, 13 -> {
                        long b = stack.pop().n;
                        long a = stack.pop().n;
                        boolean so = i[0] == 12 ? signed(a) < signed(b) : a == b;
                        path.add(so);
                        next = so ? next : i[1];
                    }
                    case 14 -> next = i[1];
                    default -> throw new IllegalStateException();
                }
                done++;
                at = next;
            }
        }
    }

    private final List<Byte> bytes = new ArrayList<>();
    private int faultKind;
    private int faultPlace = -1;
    private Compiled compiled = new Compiled();
    private long[] inputs = new long[4];
    private Run run = new Run(compiled, inputs);

    int feed(int... numbers) {
        if (bytes.size() > 880) {
            return -1;
        }
        for (int n : numbers) {
            for (int i = 0; i < 4; i++) {
                bytes.add((byte) (n >> 24 - 8 * i));
            }
        }
        return bytes.size();
    }

    int text(int n) {
        if (n < 0 || n > bytes.size()) {
            return -2;
        }
        StringBuilder s = new StringBuilder();
        for (int i = 0; i < n; i++) {
            s.append((char) (bytes.get(i) & 255));
        }
        bytes.clear();
        try {
            Reader reader = new Reader();
            reader.read(s.toString());
            faultKind = 0;
            faultPlace = -1;
            compiled = reader.made;
        } catch (Fault f) {
            faultKind = f.kind;
            faultPlace = f.place;
            return -1;
        }
        inputs = new long[4];
        run = new Run(compiled, inputs);
        return compiled.lines;
    }

    int fault(int what) {
        return what == 0 ? faultKind : what == 1 ? faultPlace : -1;
    }

    private boolean noInput(int i) {
        return i < 0 || i >= compiled.inputs;
    }

    private boolean noOut(int k) {
        return k < 0 || k >= run.outs.size();
    }

    int set(int i, int a, int b) {
        if (noInput(i) || Math.abs((long) a) > 1000000000 || b < 1 || b > 1000000000) {
            return -1;
        }
        long was = inputs[i];
        inputs[i] = mod(mod(a) * inverse(b));
        run = new Run(compiled, inputs);
        return (int) was;
    }

    int code(int i, int what) {
        if (i < 0 || i >= compiled.code.size()) {
            return Check.OUT_OF_BOUNDS;
        }
        return what < 0 || what > 2 ? Check.NO_ELEMENT : compiled.code.get(i)[what];
    }

    int row(int r, int what) {
        if (r < 0 || r >= compiled.rows.size() || what < 0 || what > 2) {
            return -1;
        }
        int[] cells = compiled.rows.get(r);
        if (what < 2) {
            return what == 0 ? cells.length : cells[0];
        }
        int found = 0;
        for (int[] other : compiled.rows) {
            boolean shares = false;
            for (int c : other) {
                for (int d : cells) {
                    shares |= c == d;
                }
            }
            found += shares ? 1 : 0;
        }
        return found;
    }

    private static int of(Value[] values, int i, int what) {
        if (i < 0 || i >= values.length || what < 0 || what > 1) {
            return -10;
        }
        return what == 0 ? (int) values[i].n : values[i].source;
    }

    int variable(int v, int what) {
        return of(run.variables, v, what);
    }

    int cell(int c, int what) {
        return of(run.cells, c, what);
    }

    int out(int k, int what) {
        return of(run.outs.toArray(new Value[0]), k, what);
    }

    int run(int what) {
        int so = 0;
        for (boolean b : run.path) {
            so += b ? 1 : 0;
        }
        int[] answers = {run.stop, run.stop == 0 ? -2 : run.at, run.done, run.outs.size(), run.tape.size(),
            run.path.size(), so};
        return what < 0 || what > 6 ? -1 : answers[what];
    }

    int path(int k) {
        return k < 0 ? -1 : k >= run.path.size() ? -2 : run.path.get(k) ? 1 : 0;
    }

    int entry(int e, int what) {
        if (e < 0 || e >= run.tape.size() || what < 0 || what > 8) {
            return -10;
        }
        Value a = run.operands.get(e)[0];
        Value b = run.operands.get(e)[1];
        int outs = 0;
        for (Value o : run.outs) {
            outs += o.entries.get(e) ? 1 : 0;
        }
        long[] answers = {run.kinds.get(e)[0], run.tape.get(e).n, a.n, b.n, a.source, b.source, run.kinds.get(e)[1],
            outs, run.tape.get(e).inputBits};
        return (int) answers[what];
    }

    int slope(int k, int i) {
        return noOut(k) || noInput(i) ? -1 : (int) run.outs.get(k).slope[i];
    }

    int bar(int k, int e) {
        if (noOut(k) || e < 0 || e >= run.tape.size()) {
            return -1;
        }
        long[] bars = run.outs.get(k).bars;
        return e < bars.length ? (int) bars[e] : 0;
    }

    int second(int k, int i, int j) {
        return noOut(k) || noInput(i) || noInput(j) ? -1 : (int) run.outs.get(k).second[i][j];
    }

    int turned(int k, int i, int... d) {
        if (noOut(k) || noInput(i)) {
            return -1;
        }
        BigInteger sum = BigInteger.ZERO;
        for (int j = 0; j < compiled.inputs; j++) {
            sum = sum.add(BigInteger.valueOf(second(k, i, j)).multiply(BigInteger.valueOf(d[j])));
        }
        return sum.mod(BigInteger.valueOf(P)).intValue();
    }

    private static long determinant(long[][] m, BitSet rows, int column, int n) {
        if (column == n) {
            return 1;
        }
        long sum = 0;
        int sign = 1;
        for (int r = rows.nextSetBit(0); r >= 0; r = rows.nextSetBit(r + 1)) {
            BitSet rest = (BitSet) rows.clone();
            rest.clear(r);
            sum = mod(sum + sign * mod(m[r][column] * determinant(m, rest, column + 1, n)));
            sign = -sign;
        }
        return sum;
    }

    int determinant(int n) {
        if (n < 1 || n > 4 || n > run.outs.size() || n > compiled.inputs) {
            return -1;
        }
        long[][] m = new long[n][];
        for (int k = 0; k < n; k++) {
            m[k] = run.outs.get(k).slope;
        }
        BitSet rows = new BitSet();
        rows.set(0, n);
        return (int) determinant(m, rows, 0, n);
    }

    /** The rank by growing a basis: an out counts if what is left of it beside the ones before is not 0. */
    int rank() {
        List<long[]> basis = new ArrayList<>();
        for (Value o : run.outs) {
            long[] left = Arrays.copyOf(o.slope, compiled.inputs);
            for (long[] b : basis) {
                int lead = lead(b);
                long factor = left[lead];
                for (int i = 0; i < left.length; i++) {
                    left[i] = mod(left[i] - mod(factor * b[i]));
                }
            }
            int lead = lead(left);
            if (lead < left.length) {
                long r = inverse(left[lead]);
                for (int i = 0; i < left.length; i++) {
                    left[i] = mod(left[i] * r);
                }
                basis.add(left);
            }
        }
        return basis.size();
    }

    private static int lead(long[] row) {
        int i = 0;
        while (i < row.length && row[i] == 0) {
            i++;
        }
        return i;
    }

    private Run with(int i, long x) {
        long[] changed = inputs.clone();
        changed[i] = mod(x);
        return new Run(compiled, changed);
    }

    int newton(int k, int i, int n) {
        if (noOut(k) || noInput(i) || n < 1 || n > 20) {
            return -1;
        }
        long x = inputs[i];
        for (int s = 0; s < n; s++) {
            Run r = with(i, x);
            if (k >= r.outs.size() || r.outs.get(k).slope[i] == 0) {
                return -2;
            }
            x = mod(x - mod(r.outs.get(k).n * inverse(r.outs.get(k).slope[i])));
        }
        return (int) x;
    }

    int change(int k, int i, int d) {
        if (noOut(k) || noInput(i) || Math.abs((long) d) > 1000000000) {
            return -1;
        }
        Run r = with(i, inputs[i] + d);
        return k >= r.outs.size() ? -2 : (int) mod(r.outs.get(k).n - run.outs.get(k).n);
    }

    /** By sums with binomials instead of differences one after another. */
    int degree(int k, int i) {
        if (noOut(k) || noInput(i)) {
            return -1;
        }
        long[] v = new long[11];
        for (int d = 0; d <= 10; d++) {
            Run r = with(i, inputs[i] + d);
            if (k >= r.outs.size()) {
                return -2;
            }
            v[d] = r.outs.get(k).n;
        }
        for (int n = 0; n <= 8; n++) {
            boolean all = true;
            for (int from = 0; from + n + 1 <= 10; from++) {
                long sum = 0;
                long binomial = 1;
                for (int t = 0; t <= n + 1; t++) {
                    sum = mod(sum + (t % 2 == 0 ? 1 : -1) * mod(binomial * v[from + n + 1 - t]));
                    binomial = binomial * (n + 1 - t) / (t + 1);
                }
                all &= sum == 0;
            }
            if (all) {
                return n;
            }
        }
        return -2;
    }

    int bends(int i) {
        if (noInput(i)) {
            return -1;
        }
        for (int d = 1; d <= 100; d++) {
            if (!with(i, inputs[i] + d).path.equals(run.path)) {
                return d;
            }
        }
        return -2;
    }

    int hangs(int k, int i, int what) {
        if (noOut(k) || what < 0 || what > 1 || what == 1 && noInput(i)) {
            return -1;
        }
        BitSet on = run.outs.get(k).entries;
        if (what == 0) {
            return on.cardinality();
        }
        return (int) on.stream().filter(e -> (run.tape.get(e).inputBits >> i & 1) == 1).count();
    }

    int back(int k, int i) {
        if (noOut(k) || i < 0) {
            return -1;
        }
        int[] on = run.outs.get(k).entries.stream().toArray();
        return i < on.length ? on[on.length - 1 - i] : -2;
    }

    int cost(int way, int which) {
        if (way < 0 || way > 1 || way == 0 && noInput(which) || way == 1 && noOut(which)) {
            return -1;
        }
        int sum = 0;
        for (int e = 0; e < run.tape.size(); e++) {
            int bits = way == 0 ? 1 << which : 15;
            if (way == 1 && (!run.outs.get(which).entries.get(e) || run.tape.get(e).inputBits == 0)) {
                continue;
            }
            boolean a = (run.operands.get(e)[0].inputBits & bits) != 0;
            boolean b = (run.operands.get(e)[1].inputBits & bits) != 0;
            int kind = run.kinds.get(e)[0];
            if (kind == 5) {
                sum += (a ? 1 : 0) + (b ? 1 : 0);
            } else if (kind == 6 && (a || b)) {
                sum += b ? 2 : 1;
            }
        }
        return sum;
    }

    int count(int what) {
        int[] answers = {compiled.lines, compiled.inputs, compiled.variables.size(), compiled.rows.size(),
            compiled.cells, compiled.code.size(), bytes.size()};
        return what < 0 || what > 6 ? -1 : answers[what];
    }

    int fraction(int v, int what) {
        if (v < 0 || v >= P || what < 0 || what > 1) {
            return -40000;
        }
        for (int d = 1; d <= 22360; d++) {
            long top = signed((long) v * d % P);
            if (Math.abs(top) <= 22360) {
                return what == 0 ? (int) top : d;
            }
        }
        return -30000;
    }
}
