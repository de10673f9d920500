import java.util.Arrays;
import java.util.Random;

/** Holds the class against the Oracle over texts made by chance (from fixed seeds). */
public final class OracleTest {
    private static final Check CHECK = new Check();
    /** How many RUNS were asked about, by why they stopped. */
    private static final int[] STOPS = new int[6];

    private OracleTest() {
    }

    public static void main(String[] args) {
        int rounds = args.length > 0 ? Integer.parseInt(args[0]) : 400;
        int from = args.length > 1 ? Integer.parseInt(args[1]) : 0;
        for (int seed = from; seed < from + rounds; seed++) {
            CHECK.at("seed " + seed);
            session(seed);
        }
        int[] faults = new int[4];
        for (int seed = from; seed < from + rounds * 20; seed++) {
            CHECK.at("altered, seed " + seed);
            altered(seed, faults);
        }
        System.out.println("texts by their faults (0 none): " + Arrays.toString(faults)
                + ", runs by why they stopped (0 not): " + Arrays.toString(STOPS));
        CHECK.end("OracleTest");
    }

    /** One object through several texts, good and bad, with inputs set in between. */
    private static void session(int seed) {
        Random random = new Random(seed * 31L + 7);
        SlopeCompiler x = new SlopeCompiler();
        Oracle o = new Oracle();
        for (int t = 0; t < 3; t++) {
            TextMaker maker = new TextMaker(seed * 1000L + t);
            String text = maker.make(random.nextInt(3) == 0, 2 + random.nextInt(10));
            if (random.nextInt(4) == 0) {
                text = maker.alter(text);
            }
            bring(x, o, text, random);
            for (int s = 0; s < 3; s++) {
                askAll(x, o, random);
                for (int i = -1; i < 5; i++) {
                    int a = random.nextInt(5) == 0 ? random.nextInt() : random.nextInt(21) - 10;
                    int b = random.nextInt(5) == 0 ? random.nextInt() : random.nextInt(4);
                    CHECK.due("set(" + i + ", " + a + ", " + b + ")", x.set(i, a, b), o.set(i, a, b));
                }
            }
        }
    }

    private static void bring(SlopeCompiler x, Oracle o, String text, Random random) {
        byte[] bytes = Check.bytesOf(text);
        for (int from = 0; from < bytes.length; from += 20) {
            int[] n = Check.numbers(bytes, from);
            CHECK.due("feed", x.feed(n[0], n[1], n[2], n[3], n[4]), o.feed(n[0], n[1], n[2], n[3], n[4]));
        }
        int n = random.nextInt(20) == 0 ? random.nextInt(1000) - 20 : Math.min(bytes.length, 900);
        CHECK.due("text(" + n + ") of " + text, x.text(n), o.text(n));
        askFault(x, o, text);
    }

    private static void askFault(SlopeCompiler x, Oracle o, String text) {
        for (int w = -1; w < 3; w++) {
            CHECK.due("fault(" + w + ") of " + text, x.fault(w), o.fault(w));
        }
    }

    private static void altered(int seed, int[] faults) {
        TextMaker maker = new TextMaker(seed * 77L + 5);
        String text = maker.alter(maker.make(false, 1 + seed % 8));
        byte[] bytes = Check.bytesOf(text);
        if (bytes.length > 900) {
            return;
        }
        SlopeCompiler x = new SlopeCompiler();
        Oracle o = new Oracle();
        bring(x, o, text, new Random(1));
        faults[o.fault(0)]++;
        for (int w = 0; w < 7; w++) {
            CHECK.due("count(" + w + ")", x.count(w), o.count(w));
        }
        for (int i = 0; i <= o.count(5); i++) {
            for (int w = 0; w < 3; w++) {
                CHECK.due("code(" + i + ", " + w + ") of " + text, Check.code(x, i, w), o.code(i, w));
            }
        }
    }

    private static void askAll(SlopeCompiler x, Oracle o, Random random) {
        STOPS[o.run(0)]++;
        for (int w = -1; w < 8; w++) {
            CHECK.due("count(" + w + ")", x.count(w), o.count(w));
            CHECK.due("run(" + w + ")", x.run(w), o.run(w));
        }
        for (int i = -1; i <= o.count(5); i++) {
            for (int w = -1; w < 4; w++) {
                CHECK.due("code(" + i + ", " + w + ")", Check.code(x, i, w), o.code(i, w));
            }
        }
        for (int r = -1; r < 50; r++) {
            for (int w = -1; w < 4; w++) {
                CHECK.due("row(" + r + ", " + w + ")", x.row(r, w), o.row(r, w));
                CHECK.due("variable(" + r + ", " + w + ")", x.variable(r, w), o.variable(r, w));
                CHECK.due("cell(" + r + ", " + w + ")", x.cell(r, w), o.cell(r, w));
                CHECK.due("out(" + r + ", " + w + ")", x.out(r, w), o.out(r, w));
            }
        }
        for (int k = -1; k <= o.run(5); k++) {
            CHECK.due("path(" + k + ")", x.path(k), o.path(k));
        }
        for (int e = -1; e <= o.run(4); e++) {
            for (int w = -1; w < 10; w++) {
                CHECK.due("entry(" + e + ", " + w + ")", x.entry(e, w), o.entry(e, w));
            }
        }
        askSlopes(x, o, random);
        askTrials(x, o, random);
        askHanging(x, o);
    }

    private static void askSlopes(SlopeCompiler x, Oracle o, Random random) {
        for (int k = -1; k <= o.run(3); k++) {
            for (int i = -1; i < 5; i++) {
                CHECK.due("slope(" + k + ", " + i + ")", x.slope(k, i), o.slope(k, i));
                for (int j = -1; j < 5; j++) {
                    CHECK.due("second(" + k + ", " + i + ", " + j + ")", x.second(k, i, j), o.second(k, i, j));
                }
                int a = random.nextInt();
                int b = random.nextInt();
                CHECK.due("turned(" + k + ", " + i + ", " + a + ", " + b + ", -1, 2)",
                        x.turned(k, i, a, b, -1, 2), o.turned(k, i, a, b, -1, 2));
            }
            for (int e = -1; e <= o.run(4); e++) {
                CHECK.due("bar(" + k + ", " + e + ")", x.bar(k, e), o.bar(k, e));
            }
        }
        for (int n = -1; n < 6; n++) {
            CHECK.due("determinant(" + n + ")", x.determinant(n), o.determinant(n));
        }
        CHECK.due("rank()", x.rank(), o.rank());
    }

    private static void askTrials(SlopeCompiler x, Oracle o, Random random) {
        for (int k = -1; k <= Math.min(o.run(3), 4); k++) {
            for (int i = -1; i < 5; i++) {
                int n = random.nextInt(7);
                CHECK.due("newton(" + k + ", " + i + ", " + n + ")", x.newton(k, i, n), o.newton(k, i, n));
                int d = random.nextInt(4) == 0 ? random.nextInt() : random.nextInt(11) - 5;
                CHECK.due("change(" + k + ", " + i + ", " + d + ")", x.change(k, i, d), o.change(k, i, d));
                CHECK.due("degree(" + k + ", " + i + ")", x.degree(k, i), o.degree(k, i));
            }
        }
        for (int i = -1; i < 5; i++) {
            CHECK.due("bends(" + i + ")", x.bends(i), o.bends(i));
        }
        for (int t = 0; t < 3; t++) {
            int v = random.nextInt(1000000007);
            CHECK.due("fraction(" + v + ", " + (t & 1) + ")", x.fraction(v, t & 1), o.fraction(v, t & 1));
        }
    }

    private static void askHanging(SlopeCompiler x, Oracle o) {
        for (int k = -1; k <= o.run(3); k++) {
            for (int i = -1; i < 5; i++) {
                for (int w = -1; w < 3; w++) {
                    CHECK.due("hangs(" + k + ", " + i + ", " + w + ")", x.hangs(k, i, w), o.hangs(k, i, w));
                }
            }
            for (int i = -1; i <= o.hangs(k, 0, 0); i++) {
                CHECK.due("back(" + k + ", " + i + ")", x.back(k, i), o.back(k, i));
            }
        }
        for (int way = -1; way < 3; way++) {
            for (int which = -1; which < 21; which++) {
                CHECK.due("cost(" + way + ", " + which + ")", x.cost(way, which), o.cost(way, which));
            }
        }
    }
}
