import java.util.Arrays;

/** What an object answers, as one row, so that two looks at it can be held against each other. */
final class Snapshot {
    private final SlopeCompiler x;
    private int[] answers = new int[512];
    private int size;

    private Snapshot(SlopeCompiler x) {
        this.x = x;
    }

    /** All that the TEXT and the INPUTS come to: not the bytes, not the FAULT. */
    static int[] ofProgram(SlopeCompiler x) {
        Snapshot s = new Snapshot(x);
        s.program();
        s.run();
        s.slopes();
        s.trials();
        return Arrays.copyOf(s.answers, s.size);
    }

    static int[] ofAll(SlopeCompiler x) {
        Snapshot s = new Snapshot(x);
        s.add(x.count(6), x.fault(0), x.fault(1));
        int[] program = ofProgram(x);
        s.add(program);
        return Arrays.copyOf(s.answers, s.size);
    }

    /** Where two looks differ first; -1: they are alike. */
    static int firstOther(int[] before, int[] behind) {
        return Arrays.mismatch(before, behind);
    }

    private void add(int... some) {
        while (size + some.length > answers.length) {
            answers = Arrays.copyOf(answers, 2 * answers.length);
        }
        System.arraycopy(some, 0, answers, size, some.length);
        size += some.length;
    }

    private void program() {
        for (int w = 0; w < 6; w++) {
            add(x.count(w));
        }
        for (int i = 0; i < x.count(5); i++) {
            add(Check.code(x, i, 0), Check.code(x, i, 1), Check.code(x, i, 2));
        }
        for (int r = 0; r < x.count(3); r++) {
            add(x.row(r, 0), x.row(r, 1), x.row(r, 2));
        }
    }

    private void run() {
        for (int w = 0; w < 7; w++) {
            add(x.run(w));
        }
        for (int v = 0; v < x.count(2); v++) {
            add(x.variable(v, 0), x.variable(v, 1));
        }
        for (int c = 0; c < x.count(4); c++) {
            add(x.cell(c, 0), x.cell(c, 1));
        }
        for (int k = 0; k < x.run(3); k++) {
            add(x.out(k, 0), x.out(k, 1), x.hangs(k, 0, 0), x.back(k, 0), x.cost(1, k));
        }
        for (int k = 0; k < x.run(5); k++) {
            add(x.path(k));
        }
        for (int e = 0; e < x.run(4); e++) {
            for (int w = 0; w < 9; w++) {
                add(x.entry(e, w));
            }
        }
    }

    private void slopes() {
        for (int k = 0; k < x.run(3); k++) {
            for (int i = 0; i < x.count(1); i++) {
                add(x.slope(k, i), x.turned(k, i, 1, 2, 3, 4), x.hangs(k, i, 1));
            }
            for (int e = 0; e < x.run(4); e++) {
                add(x.bar(k, e));
            }
        }
        add(x.rank(), x.determinant(1), x.determinant(2), x.determinant(3), x.determinant(4));
    }

    private void trials() {
        for (int i = 0; i < x.count(1); i++) {
            add(x.cost(0, i), x.bends(i));
            if (x.run(3) > 0) {
                add(x.newton(0, i, 2), x.change(0, i, 1), x.degree(0, i));
            }
        }
    }
}
