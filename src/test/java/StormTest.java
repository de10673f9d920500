import java.util.Random;

/** Any calls in any order with any arguments, 512 on each object: as the Oracle answers, and nothing is thrown. */
public final class StormTest {
    private static final Check CHECK = new Check();
    private static final int[] NUMBERS = {Integer.MIN_VALUE, Integer.MIN_VALUE + 1, -1000000001, -1000000000, -1000, -2, -1, 0,
        0, 0, 1, 1, 1, 2, 2, 3, 3, 4, 5, 6, 7, 8, 9, 10, 19, 20, 21, 22, 31, 32, 33, 47, 48, 59, 60, 61, 100, 399, 400, 401, 900,
        901, 999, 1000, 1001, 1003, 2999, 3000, 3001, 1000000000, 1000000001, 1000000006, 1000000007, 1000000008,
        Integer.MAX_VALUE - 1, Integer.MAX_VALUE};

    private final Random random;
    private final SlopeCompiler x = new SlopeCompiler();
    private final Oracle o = new Oracle();

    private StormTest(int seed) {
        random = new Random(seed);
    }

    public static void main(String[] args) {
        int rounds = args.length > 0 ? Integer.parseInt(args[0]) : 150;
        for (int seed = 0; seed < rounds; seed++) {
            CHECK.at("seed " + seed);
            StormTest storm = new StormTest(seed);
            for (int call = 0; call < 512; call++) {
                if (call % 64 == 0) {
                    storm.bring(seed * 8L + call / 64);
                }
                storm.one();
            }
        }
        CHECK.end("StormTest");
    }

    private void bring(long seed) {
        TextMaker maker = new TextMaker(seed);
        String text = maker.make(random.nextInt(2) == 0, 1 + random.nextInt(8));
        byte[] bytes = Check.bytesOf(random.nextInt(3) == 0 ? maker.alter(text) : text);
        for (int from = 0; from < bytes.length; from += 20) {
            int[] n = Check.numbers(bytes, from);
            CHECK.due("feed", x.feed(n[0], n[1], n[2], n[3], n[4]), o.feed(n));
        }
        CHECK.due("text", x.text(bytes.length), o.text(bytes.length));
    }

    private int any() {
        return NUMBERS[random.nextInt(NUMBERS.length)];
    }

    private void one() {
        int a = any();
        int b = any();
        int c = any();
        int d = any();
        String with = "(" + a + ", " + b + ", " + c + ", " + d + ", ..)";
        switch (random.nextInt(33)) {
            case 0 -> CHECK.due("feed" + with, x.feed(a, b, c, d, 3), o.feed(a, b, c, d, 3));
            case 1 -> CHECK.due("text" + with, x.text(Math.min(a, 3)), o.text(Math.min(a, 3)));
            case 2 -> CHECK.due("fault" + with, x.fault(a), o.fault(a));
            case 3 -> CHECK.due("set" + with, x.set(a, b, c), o.set(a, b, c));
            case 4 -> CHECK.due("code" + with, Check.code(x, a, b), o.code(a, b));
            case 5 -> CHECK.due("row" + with, x.row(a, b), o.row(a, b));
            case 6 -> CHECK.due("variable" + with, x.variable(a, b), o.variable(a, b));
            case 7 -> CHECK.due("cell" + with, x.cell(a, b), o.cell(a, b));
            case 8 -> CHECK.due("out" + with, x.out(a, b), o.out(a, b));
            case 9 -> CHECK.due("run" + with, x.run(a), o.run(a));
            case 10 -> CHECK.due("path" + with, x.path(a), o.path(a));
            case 11 -> CHECK.due("entry" + with, x.entry(a, b), o.entry(a, b));
            case 12 -> CHECK.due("slope" + with, x.slope(a, b), o.slope(a, b));
            case 13 -> CHECK.due("bar" + with, x.bar(a, b), o.bar(a, b));
            case 14 -> CHECK.due("second" + with, x.second(a, b, c), o.second(a, b, c));
            case 15 -> CHECK.due("turned" + with, x.turned(a, b, c, d, d, c), o.turned(a, b, c, d, d, c));
            case 16 -> CHECK.due("determinant" + with, x.determinant(a), o.determinant(a));
            case 17 -> CHECK.due("rank", x.rank(), o.rank());
            case 18 -> CHECK.due("newton" + with, x.newton(a, b, c), o.newton(a, b, c));
            case 19 -> CHECK.due("change" + with, x.change(a, b, c), o.change(a, b, c));
            case 20 -> CHECK.due("degree" + with, x.degree(a, b), o.degree(a, b));
            case 21 -> CHECK.due("bends" + with, x.bends(a), o.bends(a));
            case 22 -> CHECK.due("hangs" + with, x.hangs(a, b, c), o.hangs(a, b, c));
            case 23 -> CHECK.due("back" + with, x.back(a, b), o.back(a, b));
            case 24 -> CHECK.due("cost" + with, x.cost(a, b), o.cost(a, b));
            case 25 -> CHECK.due("count" + with, x.count(a), o.count(a));
            case 26 -> CHECK.due("fraction" + with, x.fraction(a, b), o.fraction(a, b));
            default -> backward(a, b, c, d);
        }
    }

    /** BackwardTest has the answers; here it counts that nothing is thrown and that refusals are the right ones. */
    private void backward(int l, int c, int n, int what) {
        boolean states = c >= 0 && c <= 20;
        CHECK.due("few", x.few(l, c) == -1 ? 1 : 0, l >= 1 && l <= 400 && states ? 0 : 1);
        CHECK.due("split", x.split(l, c) == -1 ? 1 : 0, l >= 2 && l <= 400 && states && c > 0 ? 0 : 1);
        CHECK.due("states", x.states(l, n) == -1 ? 1 : 0, l >= 1 && l <= 400 && n >= 0 ? 0 : 1);
        boolean walk = l >= 1 && l <= 60 && states && what >= 0 && what <= 2;
        CHECK.due("action", x.action(l, c, n, what) == -1 ? 1 : 0, walk && n >= 0 ? 0 : 1);
        CHECK.due("actions", x.actions(l, c, what) == -1 ? 1 : 0, walk ? 0 : 1);
    }
}
