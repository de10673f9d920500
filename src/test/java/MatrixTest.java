import java.util.Random;

/** Determinants and ranks of SLOPES, promises 18 and 19, against sums over permutations and the greatest minors. */
public final class MatrixTest {
    private static final Check CHECK = new Check();
    private static final long P = 1000000007L;
    private static final String NAMES = "abcd";

    private MatrixTest() {
    }

    public static void main(String[] args) {
        Random random = new Random(18);
        SlopeCompiler x = new SlopeCompiler();
        for (int turn = 0; turn < 4000; turn++) {
            int outs = turn % 7;
            int inputs = turn / 7 % 5;
            int[][] m = new int[outs][inputs];
            for (int[] row : m) {
                for (int i = 0; i < inputs; i++) {
                    row[i] = turn % 3 == 0 ? random.nextInt(2) : turn % 3 == 1 ? random.nextInt(4) - 1 : random.nextInt(19999) - 9999;
                }
            }
            if (outs > 2 && turn % 5 == 0) {
                joinRows(m, random);
            }
            holds(x, m, outs, inputs);
        }
        CHECK.end("MatrixTest");
    }

    /** Makes the last row out of two others, so that the rank is less. */
    private static void joinRows(int[][] m, Random random) {
        int[] last = m[m.length - 1];
        for (int i = 0; i < last.length; i++) {
            last[i] = (m[0][i] - m[1][i]) % 9999;
        }
        int other = random.nextInt(m.length);
        m[m.length - 1] = m[other];
        m[other] = last;
    }

    private static String textOf(int[][] m, int inputs) {
        StringBuilder text = new StringBuilder();
        for (int i = 0; i < inputs; i++) {
            text.append("in ").append(NAMES.charAt(i)).append(';');
        }
        for (int[] row : m) {
            text.append("out 7");
            for (int i = 0; i < inputs; i++) {
                text.append(row[i] < 0 ? '-' : '+').append(NAMES.charAt(i)).append('*').append(Math.abs(row[i]));
            }
            text.append(';');
        }
        return text.toString();
    }

    /** One object for all texts: what was asked for before must not count. */
    private static void holds(SlopeCompiler x, int[][] m, int outs, int inputs) {
        String text = textOf(m, inputs);
        CHECK.at(text);
        CHECK.due("text", Check.text(x, text), outs + inputs);
        int rank = 0;
        for (int size = 1; size <= Math.min(outs, inputs); size++) {
            rank = hasMinor(m, outs, inputs, size) ? size : rank;
        }
        CHECK.due("rank()", x.rank(), rank);
        for (int n = 4; n >= 1; n--) {
            long due = n > Math.min(outs, inputs) ? -1 : determinant(m, (1 << n) - 1, (1 << n) - 1, n);
            CHECK.due("determinant(" + n + ")", x.determinant(n), due);
        }
        CHECK.due("rank()", x.rank(), rank);
    }

    private static boolean hasMinor(int[][] m, int outs, int inputs, int size) {
        for (int rows = 0; rows < 1 << outs; rows++) {
            for (int columns = 0; columns < 1 << inputs; columns++) {
                if (Integer.bitCount(rows) == size && Integer.bitCount(columns) == size
                        && determinant(m, rows, columns, size) != 0) {
                    return true;
                }
            }
        }
        return false;
    }

    /** Of the rows and columns whose bits are set, along the first of these rows. */
    private static long determinant(int[][] m, int rows, int columns, int size) {
        if (size == 0) {
            return 1;
        }
        int row = Integer.numberOfTrailingZeros(rows);
        long sum = 0;
        int sign = 1;
        for (int left = columns; left != 0; left &= left - 1) {
            int column = Integer.numberOfTrailingZeros(left);
            long minor = determinant(m, rows & rows - 1, columns & ~(1 << column), size - 1);
            sum = Math.floorMod(sum + sign * (m[row][column] * minor % P), P);
            sign = -sign;
        }
        return sum;
    }
}
