import java.nio.charset.StandardCharsets;
import java.util.NoSuchElementException;

/** Counts the answers that are not due, and helps to bring texts to an object. */
final class Check {
    static final int OUT_OF_BOUNDS = -777001;
    static final int NO_ELEMENT = -777002;

    private int asked;
    private int wrong;
    private String where = "";

    void at(String newWhere) {
        where = newWhere;
    }

    void due(String call, long got, long want) {
        asked++;
        if (got != want) {
            wrong++;
            if (wrong <= 60) {
                System.out.println(where + ": " + call + " answered " + got + ", due is " + want);
            }
        }
    }

    int wrong() {
        return wrong;
    }

    /** Ends the test: a row on what it came to, exit code 1 if an answer was wrong. */
    void end(String name) {
        System.out.println(name + ": " + asked + " answers asked for, " + wrong + " wrong");
        if (asked == 0 || wrong != 0) {
            System.exit(1);
        }
    }

    static byte[] bytesOf(String text) {
        return text.getBytes(StandardCharsets.ISO_8859_1);
    }

    /** Feeds the bytes, blanks behind them up to the next twenty; answers what the last feed did. */
    static int feed(SlopeCompiler x, byte[] bytes) {
        int last = SlopeCompiler.NONE;
        for (int from = 0; from < bytes.length; from += 20) {
            int[] n = numbers(bytes, from);
            last = x.feed(n[0], n[1], n[2], n[3], n[4]);
        }
        return last;
    }

    static int[] numbers(byte[] bytes, int from) {
        int[] numbers = new int[5];
        for (int i = 0; i < 20; i++) {
            int b = from + i < bytes.length ? bytes[from + i] & 255 : 32;
            numbers[i / 4] = numbers[i / 4] << 8 | b;
        }
        return numbers;
    }

    static int text(SlopeCompiler x, String text) {
        byte[] bytes = bytesOf(text);
        feed(x, bytes);
        return x.text(bytes.length);
    }

    static SlopeCompiler of(String text) {
        SlopeCompiler x = new SlopeCompiler();
        int lines = text(x, text);
        if (lines < 0) {
            System.out.println("no program: " + text + " (fault " + x.fault(0) + " at " + x.fault(1) + ")");
            System.exit(1);
        }
        return x;
    }

    static int code(SlopeCompiler x, int i, int what) {
        try {
            return x.code(i, what);
        } catch (IndexOutOfBoundsException e) {
            return OUT_OF_BOUNDS;
        } catch (NoSuchElementException e) {
            return NO_ELEMENT;
        }
    }

    /** a by b as a NUMBER. */
    static int by(long a, long b) {
        java.math.BigInteger p = java.math.BigInteger.valueOf(1000000007);
        java.math.BigInteger inverse = java.math.BigInteger.valueOf(b).modInverse(p);
        return java.math.BigInteger.valueOf(a).multiply(inverse).mod(p).intValue();
    }
}
