import java.util.function.IntUnaryOperator;

/** The bounds of what each call takes, promise by promise: the last that is taken, the first that is refused. */
public final class AskEdgeTest {
    private static final Check CHECK = new Check();
    private static final int P = 1000000007;
    private static final int BILLION = 1000000000;
    private static final int MIN = Integer.MIN_VALUE;
    private static final int MAX = Integer.MAX_VALUE;

    private AskEdgeTest() {
    }

    public static void main(String[] args) {
        newObject();
        feed();
        text();
        fault();
        set();
        code();
        programAndRun();
        path();
        slopes();
        turned();
        determinant();
        rank();
        newton();
        newtonWithoutOuts();
        change();
        degree();
        bends();
        hanging();
        cost();
        backward();
        actions();
        fraction();
        noneAheadOfMissing();
        CHECK.end("AskEdgeTest");
    }

    /** All INPUTS, ROWS, CELLS, VARIABLES, ENTRIES and OUTS that there may be, three TESTS. */
    private static SlopeCompiler full() {
        SlopeCompiler x = Check.of("in p;in q;in r;in s;row a 8;row b 8;row c 8;row d 8;row e 8;row f 8;x=1;"
                + "loop i 20;loop j 20;x=x*p;end;end;y=q;if y<5;end;if p=1;end;if r=s;end;loop i 20;out x;end;");
        x.set(0, 2, 1);
        x.set(1, 3, 1);
        return x;
    }

    private static void taken(String call, IntUnaryOperator f, int n, int refused) {
        CHECK.due(call + " takes " + n, f.applyAsInt(n) == refused ? 1 : 0, 0);
    }

    /** Of all numbers those from least to most are taken: each end, the one next to it, the farthest. */
    private static void range(String call, IntUnaryOperator f, int least, int most, int refused) {
        taken(call, f, least, refused);
        taken(call, f, most, refused);
        for (int n : new int[] {MIN, MIN + 1, least - 1, -BILLION - 1, most + 1, MAX - 1, MAX}) {
            if (n < least || n > most) {
                CHECK.due(call + " with " + n, f.applyAsInt(n), refused);
            }
        }
    }

    private static void newObject() {
        CHECK.at("promise 1: no LINES");
        SlopeCompiler x = new SlopeCompiler();
        for (int i : new int[] {MIN, -1, 0, 1, 1000, MAX}) {
            CHECK.due("code", Check.code(x, i, 0), Check.OUT_OF_BOUNDS);
            CHECK.due("code", Check.code(x, i, 3), Check.OUT_OF_BOUNDS);
            CHECK.due("row", x.row(i, 0), -1);
            CHECK.due("variable", x.variable(i, 0), -10);
            CHECK.due("cell", x.cell(i, 0), -10);
            CHECK.due("out", x.out(i, 0), -10);
            CHECK.due("path", x.path(i), i < 0 ? -1 : -2);
            CHECK.due("entry", x.entry(i, 0), -10);
            CHECK.due("slope", x.slope(i, 0), -1);
            CHECK.due("bar", x.bar(i, 0), -1);
            CHECK.due("second", x.second(i, 0, 0), -1);
            CHECK.due("turned", x.turned(i, 0, 1, 1, 1, 1), -1);
            CHECK.due("determinant", x.determinant(i), -1);
            CHECK.due("newton", x.newton(i, 0, 1), -1);
            CHECK.due("change", x.change(i, 0, 1), -1);
            CHECK.due("degree", x.degree(i, 0), -1);
            CHECK.due("bends", x.bends(i), -1);
            CHECK.due("hangs", x.hangs(i, 0, 0), -1);
            CHECK.due("back", x.back(i, 0), -1);
            CHECK.due("cost", x.cost(0, i), -1);
            CHECK.due("cost", x.cost(1, i), -1);
            CHECK.due("set", x.set(i, 1, 1), -1);
            CHECK.due("text", x.text(i), i == 0 ? 0 : -2);
        }
        CHECK.due("rank", x.rank(), 0);
    }

    /** "the highest first"; "none come, if there would be more than 900". */
    private static void feed() {
        CHECK.at("promise 2: the highest first");
        SlopeCompiler x = new SlopeCompiler();
        CHECK.due("feed", x.feed(0x61626364, 0x3d313b6f, 0x75742061, 0x6263642b, 0x3233343b), 20);
        CHECK.due("text(20)", x.text(20), 2);
        CHECK.due("out(0, 0)", x.out(0, 0), 235);
        for (int at = 0; at < 20; at++) {
            byte[] bytes = Check.bytesOf(" ".repeat(20));
            bytes[at] = -1;
            int[] n = Check.numbers(bytes, 0);
            CHECK.due("feed", x.feed(n[0], n[1], n[2], n[3], n[4]), 20);
            CHECK.due("text(20)", x.text(20), -1);
            CHECK.due("a byte of 255: fault(1)", x.fault(1), at);
        }
        CHECK.at("promise 2: full");
        for (int turn = 0; turn < 2; turn++) {
            for (int n = 1; n <= 45; n++) {
                CHECK.due("feed", blanks(x), 20 * n);
                CHECK.due("count(6)", x.count(6), 20 * n);
            }
            for (int more = 0; more < 3; more++) {
                CHECK.due("a 46th feed", x.feed(0x23232323, 0x23232323, 0x23232323, 0x23232323, 0x23232323), -1);
                CHECK.due("count(6)", x.count(6), 900);
            }
            CHECK.due("text(901)", x.text(901), -2);
            CHECK.due("count(6)", x.count(6), 900);
            CHECK.due("text: none have come", x.text(900), 0);
            CHECK.due("count(6)", x.count(6), 0);
        }
        for (int n = 1; n <= 44; n++) {
            blanks(x);
        }
        CHECK.due("the 45th feed is taken whole", x.feed(0x20202020, 0x20202020, 0x20202020, 0x20202020, 0x20202023), 900);
        CHECK.due("text(899)", x.text(899), 0);
        for (int n = 1; n <= 44; n++) {
            blanks(x);
        }
        x.feed(0x20202020, 0x20202020, 0x20202020, 0x20202020, 0x20202023);
        CHECK.due("text(900)", x.text(900), -1);
        CHECK.due("fault(1)", x.fault(1), 899);
        CHECK.due("room again behind a FAULT", blanks(x), 20);
    }

    private static int blanks(SlopeCompiler x) {
        return x.feed(0x20202020, 0x20202020, 0x20202020, 0x20202020, 0x20202020);
    }

    /** "The first n bytes (there are none then)"; "-2, and the bytes stay: there are not so many, n is below 0". */
    private static void text() {
        CHECK.at("promise 3");
        SlopeCompiler x = new SlopeCompiler();
        Check.feed(x, Check.bytesOf("in a;out a;out 7;   "));
        for (int n : new int[] {MIN, -901, -20, -1, 21, 22, 900, 901, MAX}) {
            CHECK.due("text(" + n + ")", x.text(n), -2);
            CHECK.due("the bytes stay", x.count(6), 20);
            CHECK.due("no LINES", x.count(0), 0);
        }
        CHECK.due("text(20)", x.text(20), 3);
        CHECK.due("out(1, 0)", x.out(1, 0), 7);
        x.set(0, 5, 1);
        for (int n : new int[] {1, 20, MAX}) {
            CHECK.due("there are none: text(" + n + ")", x.text(n), -2);
            CHECK.due("all stays", x.out(0, 0), 5);
        }
        Check.feed(x, Check.bytesOf("in a;out a;out 7;   "));
        CHECK.due("text(10): a FAULT", x.text(10), -1);
        CHECK.due("there are none then", x.count(6), 0);
        CHECK.due("all else stays", x.out(0, 0), 5);
        Check.feed(x, Check.bytesOf("in a;out a;out 7;   "));
        CHECK.due("text(11)", x.text(11), 2);
        CHECK.due("there are none then", x.count(6), 0);
        CHECK.due("INPUTS 0", x.out(0, 0), 0);
        CHECK.due("OUTS", x.run(3), 1);
        x.set(0, 5, 1);
        Check.feed(x, Check.bytesOf("in a;out a;out 7;   "));
        CHECK.due("text(0)", x.text(0), 0);
        for (int w = 0; w < 7; w++) {
            CHECK.due("count(" + w + ")", x.count(w), 0);
            CHECK.due("run(" + w + ")", x.run(w), w == 1 ? -2 : 0);
        }
        CHECK.due("no INPUTS", x.set(0, 1, 1), -1);
        CHECK.due("text(0) without bytes", x.text(0), 0);
        CHECK.due("in a;", Check.text(x, "in a;out a;"), 2);
        CHECK.due("an INPUT of long ago is 0", x.out(0, 0), 0);
        // more INPUTS than the one before had, then fewer
        CHECK.due("text", Check.text(x, "in a;in b;out b;"), 3);
        x.set(1, 9, 1);
        CHECK.due("text", Check.text(x, "in a;"), 1);
        CHECK.due("set(1, ..)", x.set(1, 1, 1), -1);
        CHECK.due("text", Check.text(x, "in a;in b;out b;"), 3);
        CHECK.due("INPUTS 0", x.out(0, 0), 0);
    }

    private static void fault() {
        CHECK.at("promise 4");
        SlopeCompiler x = new SlopeCompiler();
        String[] texts = {"out ;", "out 10000;", "in x;in x;", "in x;", ";", "", "out 1"};
        int[] kinds = {1, 2, 3, 0, 1, 0, 1};
        int[] places = {4, 4, 8, -1, 0, -1, 5};
        for (int turn = 0; turn < 2; turn++) {
            for (int t = 0; t < texts.length; t++) {
                Check.text(x, texts[t]);
                for (int ask = 0; ask < 2; ask++) {
                    CHECK.due("fault(0) of " + texts[t], x.fault(0), kinds[t]);
                    CHECK.due("fault(1) of " + texts[t], x.fault(1), places[t]);
                    for (int w : new int[] {MIN, -2, -1, 2, 3, MAX}) {
                        CHECK.due("fault(" + w + ")", x.fault(w), -1);
                    }
                    CHECK.due("a text() that is -2", x.text(ask == 0 ? 1 : -1), -2);
                }
            }
        }
    }

    /** "a -1000000000 .. 1000000000, b 1 .. 1000000000". */
    private static void set() {
        CHECK.at("promise 5");
        for (int inputs = 0; inputs <= 4; inputs++) {
            SlopeCompiler x = Check.of("in a;in b;in c;in d;".substring(0, 5 * inputs) + "z=1;");
            for (int i = 0; i < inputs; i++) {
                CHECK.due("set(" + i + ", 7, 1)", x.set(i, 7, 1), 0);
                CHECK.due("variable(" + i + ", 0)", x.variable(i, 0), 7);
            }
            for (int i : new int[] {MIN, -1, inputs, inputs + 1, 4, 1000, MAX}) {
                CHECK.due("set(" + i + ", 7, 1) of " + inputs, x.set(i, 7, 1), -1);
            }
            CHECK.due("z is no INPUT", x.variable(inputs, 0), 1);
        }
        SlopeCompiler x = Check.of("in a;");
        range("a of set", a -> x.set(0, a, 1), -BILLION, BILLION, -1);
        range("b of set", b -> x.set(0, 1, b), 1, BILLION, -1);
        x.set(0, 0, 1);
        int[][] pairs = {{BILLION, 1}, {-BILLION, 1}, {BILLION, BILLION}, {-BILLION, BILLION}, {1, BILLION}, {0, BILLION},
            {0, 1}, {BILLION - 1, 2}, {-1, BILLION - 1}, {1, 2}};
        int was = 0;
        for (int[] pair : pairs) {
            CHECK.due("what it was", x.set(0, pair[0], pair[1]), was);
            was = Check.by(pair[0], pair[1]);
            CHECK.due(pair[0] + " by " + pair[1], x.variable(0, 0), was);
            for (int[] bad : new int[][] {{BILLION + 1, 1}, {-BILLION - 1, 1}, {1, 0}, {1, BILLION + 1}, {1, P}, {P, 1}}) {
                CHECK.due("refused", x.set(0, bad[0], bad[1]), -1);
                CHECK.due("it stays", x.variable(0, 0), was);
            }
        }
    }

    private static void code() {
        CHECK.at("promise 6");
        SlopeCompiler x = Check.of("row r 1;row s 1;row t 1;row u 1;row v 1;row w 1;in a;b=0;c=0;d=0;e=0;f=0;g=0;loop h 20;"
                + "loop a 1;end;end;out w[0];w[0]=h;r[0]=9999;");
        int last = x.count(5) - 1;
        for (int i : new int[] {MIN, -1, last + 1, 900, MAX}) {
            for (int what : new int[] {MIN, -1, 0, 1, 2, 3, MAX}) {
                CHECK.due("code(" + i + ", " + what + ")", Check.code(x, i, what), Check.OUT_OF_BOUNDS);
            }
        }
        for (int i : new int[] {0, last}) {
            for (int what : new int[] {MIN, -1, 3, MAX}) {
                CHECK.due("code(" + i + ", " + what + ")", Check.code(x, i, what), Check.NO_ELEMENT);
            }
        }
        CHECK.due("it throws that very class", thrown(x, last + 1) == IndexOutOfBoundsException.class ? 1 : 0, 1);
        CHECK.due("it throws that very class", thrown(x, 0) == java.util.NoSuchElementException.class ? 1 : 0, 1);
        int[][] due = {{0, 0, 0}, {7, 1, 0}, {0, 0, 0}, {7, 2, 0}, {0, 0, 0}, {7, 3, 0}, {0, 0, 0}, {7, 4, 0}, {0, 0, 0},
            {7, 5, 0}, {0, 0, 0}, {7, 6, 0}, {10, 7, 20}, {10, 0, 1}, {11, 14, 0}, {11, 13, 0}, {0, 0, 0}, {2, 5, 0}, {9, 0, 0},
            {0, 0, 0}, {1, 7, 0}, {8, 5, 0}, {0, 0, 0}, {0, 9999, 0}, {8, 0, 0}};
        CHECK.due("count(5)", x.count(5), due.length);
        for (int i = 0; i < due.length; i++) {
            for (int what = 0; what < 3; what++) {
                CHECK.due("code(" + i + ", " + what + ")", Check.code(x, i, what), due[i][what]);
            }
        }
    }

    /** Which class code(i, 3) throws: the machine's own would be one below it. */
    private static Class<?> thrown(SlopeCompiler x, int i) {
        try {
            x.code(i, 3);
            return null;
        } catch (RuntimeException e) {
            return e.getClass();
        }
    }

    private static void programAndRun() {
        SlopeCompiler x = full();
        CHECK.at("promise 7");
        range("r of row", r -> x.row(r, 0), 0, 5, -1);
        range("r of row", r -> x.row(r, 2), 0, 5, -1);
        range("what of row", w -> x.row(5, w), 0, 2, -1);
        CHECK.at("promises 8, 9, 10");
        range("v of variable", v -> x.variable(v, 0), 0, 7, -10);
        range("v of variable", v -> x.variable(v, 1), 0, 7, -10);
        range("what of variable", w -> x.variable(7, w), 0, 1, -10);
        range("c of cell", c -> x.cell(c, 0), 0, 47, -10);
        range("c of cell", c -> x.cell(c, 1), 0, 47, -10);
        range("what of cell", w -> x.cell(47, w), 0, 1, -10);
        range("k of out", k -> x.out(k, 0), 0, 19, -10);
        range("k of out", k -> x.out(k, 1), 0, 19, -10);
        range("what of out", w -> x.out(19, w), 0, 1, -10);
        CHECK.at("promise 11");
        range("what of run", x::run, 0, 6, -1);
        int[] run = {0, -2, 2 + 2041 + 2 + 9 + 61, 20, 400, 3, 2};
        for (int w = 0; w < run.length; w++) {
            CHECK.due("run(" + w + ")", x.run(w), run[w]);
        }
        CHECK.at("promise 13");
        for (int what = 0; what <= 8; what++) {
            int w = what;
            range("e of entry", e -> x.entry(e, w), 0, 399, -10);
        }
        range("what of entry", w -> x.entry(0, w), 0, 8, -10);
        range("what of entry", w -> x.entry(399, w), 0, 8, -10);
        CHECK.at("promise 33");
        range("what of count", x::count, 0, 6, -1);
        int[] count = {26, 4, 8, 6, 48, 25, 0};
        for (int w = 0; w < count.length; w++) {
            CHECK.due("count(" + w + ")", x.count(w), count[w]);
        }
    }

    /** "-2: there were not so many; NONE: k is below 0". */
    private static void path() {
        CHECK.at("promise 12");
        SlopeCompiler x = full();
        int[] due = {1, 0, 1};
        for (int k = 0; k < 3; k++) {
            CHECK.due("path(" + k + ")", x.path(k), due[k]);
        }
        for (int k : new int[] {3, 4, 31, 32, 1023, 1024, 3000, MAX}) {
            CHECK.due("path(" + k + ")", x.path(k), -2);
        }
        for (int k : new int[] {-1, -2, -32, MIN}) {
            CHECK.due("path(" + k + ")", x.path(k), -1);
        }
        // as many TESTS as 900 bytes and 3000 instructions hold, in turn so and not so
        x = Check.of("loop i 20;" + "if 1=1;end;if 1=2;end;".repeat(40) + "end;");
        CHECK.due("run(5)", x.run(5), 995);
        CHECK.due("run(6)", x.run(6), 498);
        for (int k = 0; k < 995; k++) {
            CHECK.due("path(" + k + ")", x.path(k), 1 - k % 2);
        }
        CHECK.due("path(995)", x.path(995), -2);
    }

    private static void slopes() {
        SlopeCompiler x = full();
        CHECK.at("promises 14, 15, 16");
        range("k of slope", k -> x.slope(k, 0), 0, 19, -1);
        range("i of slope", i -> x.slope(0, i), 0, 3, -1);
        range("k of bar", k -> x.bar(k, 0), 0, 19, -1);
        range("e of bar", e -> x.bar(19, e), 0, 399, -1);
        range("k of second", k -> x.second(k, 0, 0), 0, 19, -1);
        range("i of second", i -> x.second(0, i, 0), 0, 3, -1);
        range("j of second", j -> x.second(0, 0, j), 0, 3, -1);
        SlopeCompiler y = Check.of("in x;out x;out 5;z=x*x;out z;out z-z;");
        y.set(0, 3, 1);
        int[][] due = {{1, 0, 0, 0}, {0, 0, 0, 0}, {6, 2, 1, 0}, {0, 0, 0, 1}};
        for (int k = 0; k < 4; k++) {
            CHECK.due("slope(" + k + ", 0)", y.slope(k, 0), due[k][0]);
            CHECK.due("second(" + k + ", 0, 0)", y.second(k, 0, 0), due[k][1]);
            CHECK.due("bar(" + k + ", 0)", y.bar(k, 0), due[k][2]);
            CHECK.due("bar(" + k + ", 1)", y.bar(k, 1), due[k][3]);
        }
    }

    /** "times dj (d0 .. d3, of those that are; any numbers)". */
    private static void turned() {
        CHECK.at("promise 17");
        SlopeCompiler x = full();
        range("k of turned", k -> x.turned(k, 0, 1, 1, 1, 1), 0, 19, -1);
        range("i of turned", i -> x.turned(0, i, 1, 1, 1, 1), 0, 3, -1);
        int[] any = {MIN, MIN + 1, -P - 1, -P, -P + 1, -BILLION - 1, -2, -1, 0, 1, P - 1, P, P + 1, 2 * P, 2 * P + 1, MAX};
        for (int inputs = 1; inputs <= 4; inputs++) {
            String ins = "in a;in b;in c;in d;".substring(0, 5 * inputs);
            String e = "a*a*5+a*b*7+a*c*11+a*d*13".substring(0, 5 + (inputs > 1 ? 6 : 0) + (inputs > 2 ? 7 : 0)
                    + (inputs > 3 ? 7 : 0));
            SlopeCompiler y = Check.of(ins + "out " + e + ";");
            long[] factors = {10, 7, 11, 13};
            for (int d : any) {
                int[] all = new int[4];
                for (int j = 0; j < inputs; j++) {
                    all[j] = (int) Math.floorMod(factors[j] * d, (long) P);
                }
                CHECK.due("d0 " + d, y.turned(0, 0, d, 0, 0, 0), all[0]);
                CHECK.due("d1 " + d, y.turned(0, 0, 0, d, 0, 0), all[1]);
                CHECK.due("d2 " + d, y.turned(0, 0, 0, 0, d, 0), all[2]);
                CHECK.due("d3 " + d, y.turned(0, 0, 0, 0, 0, d), all[3]);
                CHECK.due("all " + d, y.turned(0, 0, d, d, d, d),
                        Math.floorMod((long) all[0] + all[1] + all[2] + all[3], (long) P));
            }
        }
    }

    /** OUTS and INPUTS as many as told, OUT k being INPUT k if there is one. */
    private static SlopeCompiler grid(int outs, int inputs) {
        StringBuilder text = new StringBuilder("in a;in b;in c;in d;".substring(0, 5 * inputs));
        for (int k = 0; k < outs; k++) {
            text.append("out ").append(k < inputs ? "abcd".charAt(k) : '8').append(";");
        }
        return Check.of(text.toString());
    }

    /** "n 1 .. 4"; "no such n, there are not so many". */
    private static void determinant() {
        for (int outs = 0; outs <= 6; outs++) {
            for (int inputs = 0; inputs <= 4; inputs++) {
                CHECK.at("promise 18, " + outs + " outs, " + inputs + " inputs");
                SlopeCompiler x = grid(outs, inputs);
                for (int n : new int[] {MIN, -1, 0, 1, 2, 3, 4, 5, 6, MAX}) {
                    CHECK.due("determinant(" + n + ")", x.determinant(n), n >= 1 && n <= Math.min(outs, inputs) ? 1 : -1);
                }
                CHECK.due("rank()", x.rank(), Math.min(outs, inputs));
            }
        }
        CHECK.at("promise 18");
        SlopeCompiler x = Check.of("in a;in b;in c;in d;out d;out c;out b;out a;");
        int[] due = {0, 0, 0, 1};
        for (int n = 1; n <= 4; n++) {
            CHECK.due("determinant(" + n + ")", x.determinant(n), due[n - 1]);
        }
        x = Check.of("in a;in b;in c;in d;out b;out c;out d;out a;");
        CHECK.due("three swaps", x.determinant(4), P - 1);
        matricesInTurn();
        x = Check.of("in a;in b;out 0-a;out 0-b;");
        CHECK.due("determinant(1)", x.determinant(1), P - 1);
        CHECK.due("determinant(2)", x.determinant(2), 1);
    }

    /** Of the first n rows and columns alone, whatever was asked for just before. */
    private static void matricesInTurn() {
        SlopeCompiler x = Check.of("in a;in b;in c;in d;out b+c+d;out a+b+c+d;out b+c;out a+b*2+d*5;");
        int[] due = {0, P - 1, 0, 2};
        for (int n = 1; n <= 4; n++) {
            CHECK.due("rank()", x.rank(), 4);
            for (int m = 1; m <= 4; m++) {
                CHECK.due("determinant(" + n + ")", x.determinant(n), due[n - 1]);
                CHECK.due("determinant(" + m + ") behind it", x.determinant(m), due[m - 1]);
            }
        }
        String[] fewer = {"in a;in b;in c;in d;out a;", "in a;in b;in c;in d;out b;out b;", "in a;out a;out 3;out a+a;out a;",
            "in a;in b;out a+b;out a+b;out 5;out b+a;", "in a;in b;in c;in d;", "out 1;out 2;", ""};
        int[] ranks = {1, 1, 1, 1, 0, 0, 0};
        for (int t = 0; t < fewer.length; t++) {
            Check.text(x, "in a;in b;in c;in d;out a+b+c+d;out b+c+d;out c+d;out d;");
            CHECK.due("rank()", x.rank(), 4);
            Check.text(x, fewer[t]);
            CHECK.due("rank() of " + fewer[t], x.rank(), ranks[t]);
        }
    }

    /** All OUTS, 20 of them; by P, so that a slope of P counts as 0. */
    private static void rank() {
        CHECK.at("promise 19");
        SlopeCompiler x = Check.of("in a;in b;in c;in d;loop i 16;out 3;end;out d;out c;out b;out a;");
        CHECK.due("the last four of 20", x.rank(), 4);
        x = Check.of("in a;in b;in c;in d;loop i 17;out 3;end;out d;out c;out b;out a;");
        CHECK.due("a 21st isn't", x.rank(), 3);
        x = Check.of("in a;in b;loop i 20;out a+b*2;end;");
        CHECK.due("20 alike", x.rank(), 1);
        x = Check.of("in a;in b;in c;out a*(c+7);");
        x.set(2, BILLION, 1);
        CHECK.due("slope(0, 0): P is 0", x.slope(0, 0), 0);
        CHECK.due("rank(): by a 0, by c a", x.rank(), 0);
        x.set(0, 1, 1);
        CHECK.due("rank(): by c 1", x.rank(), 1);
    }

    /** An OUT whose value and SLOPE are 1, x being 1 .. 20: t is x without its SOURCE; at 0 there is another. */
    private static SlopeCompiler downwards(String atZero) {
        return Check.of("in x;in y;loop i 20;if i+1=x;t=i;end;end;if x=0;" + atZero + "else;out x-t;end;");
    }

    private static void newton() {
        CHECK.at("promise 20");
        SlopeCompiler x = Check.of("in x;in y;out x*x-y;out x+y;");
        x.set(0, 3, 1);
        x.set(1, 2, 1);
        range("k of newton", k -> x.newton(k, 0, 1), 0, 1, -1);
        range("i of newton", i -> x.newton(0, i, 1), 0, 1, -1);
        range("n of newton", n -> x.newton(0, 0, n), 1, 20, -1);
        int[] steps = new int[21];
        for (int n = 1; n <= 20; n++) {
            steps[n] = x.newton(0, 0, n);
        }
        long v = 3;
        for (int n = 1; n <= 20; n++) {
            long half = Check.by((v * v + 2) % P, 1);
            v = Check.by(half, 2 * v % P);
            CHECK.due("newton(0, 0, " + n + ")", steps[n], v);
        }
        CHECK.due("x stays", x.variable(0, 0), 3);
    }

    /** "-2: the SLOPE is 0, there is no OUT k any more": at the last step and just behind it. */
    private static void newtonWithoutOuts() {
        for (String atZero : new String[] {"z=1;", "out 7;", "out y;", "out x-x;", "z=1/0;"}) {
            SlopeCompiler x = downwards(atZero);
            CHECK.at("promise 20, at 0 " + atZero);
            for (int from : new int[] {1, 2, 19, 20}) {
                x.set(0, from, 1);
                CHECK.due("out(0, 0)", x.out(0, 0), 1);
                for (int n = 1; n <= 20; n++) {
                    CHECK.due("from " + from + ": newton(0, 0, " + n + ")", x.newton(0, 0, n), n <= from ? from - n : -2);
                }
            }
            CHECK.due("by y the SLOPE is 0", x.newton(0, 1, 1), -2);
        }
        CHECK.at("promise 20, no OUT at first");
        CHECK.due("newton(0, 0, 1)", downwards("z=1;").newton(0, 0, 1), -1);
        CHECK.due("newton(0, 0, 1)", downwards("out 7;").newton(0, 0, 1), -2);
    }

    private static void change() {
        CHECK.at("promise 21");
        SlopeCompiler x = Check.of("in x;in y;out x;if x=5;out 9;end;");
        x.set(0, 5, 1);
        range("d of change", d -> x.change(0, 0, d), -BILLION, BILLION, -1);
        range("k of change", k -> x.change(k, 0, 0), 0, 1, -1);
        range("i of change", i -> x.change(0, i, 0), 0, 1, -1);
        CHECK.due("change(0, 0, 1e9)", x.change(0, 0, BILLION), BILLION);
        CHECK.due("change(0, 0, -1e9)", x.change(0, 0, -BILLION), 7);
        CHECK.due("change(0, 0, -1)", x.change(0, 0, -1), P - 1);
        CHECK.due("change(1, 0, 0)", x.change(1, 0, 0), 0);
        CHECK.due("change(1, 0, 1)", x.change(1, 0, 1), -2);
        CHECK.due("change(1, 0, -1)", x.change(1, 0, -1), -2);
        CHECK.due("change(1, 1, 1)", x.change(1, 1, 1), 0);
        CHECK.due("change(2, 0, 0)", x.change(2, 0, 0), -1);
        x.set(0, -1, 1);
        CHECK.due("from P less 1 to 0", x.change(0, 0, 1), 1);
        CHECK.due("from P less 1, 1e9", x.change(0, 0, BILLION), BILLION);
        CHECK.due("no OUT 1 now", x.change(1, 0, 6), -1);
        SlopeCompiler z = Check.of("in x;if x=5;out 0;end;");
        z.set(0, 5, 1);
        CHECK.due("an OUT of 0 would be none", z.change(0, 0, 1), -2);
        CHECK.due("an OUT of 0 stays", z.change(0, 0, 0), 0);
        SlopeCompiler y = Check.of("in x;if x<3;out 1;end;out 2;");
        y.set(0, 3, 1);
        CHECK.due("OUT 1 would come, but isn't", y.change(1, 0, -1), -1);
        CHECK.due("OUT 0 is another one", y.change(0, 0, -1), P - 1);
    }

    /** "The least n 0 .. 8"; "as it is, 1, 2, .., 10 more". */
    private static void degree() {
        CHECK.at("promise 22");
        SlopeCompiler x = Check.of("in x;in y;out 1;out x;");
        range("k of degree", k -> x.degree(k, 0), 0, 1, -1);
        range("i of degree", i -> x.degree(0, i), 0, 1, -1);
        for (int from : new int[] {0, -5, -10, -11, 499999999, 1000000000}) {
            for (int n = 0; n <= 11; n++) {
                SlopeCompiler y = Check.of("in x;out 1" + "*x".repeat(n) + ";");
                y.set(0, from, 1);
                CHECK.due("x times itself " + n + " from " + from, y.degree(0, 0), n <= 8 ? n : -2);
            }
        }
        for (int at = -1; at <= 12; at++) {
            SlopeCompiler y = Check.of("in x;in e;if x=e;z=1;else;out 4;end;");
            CHECK.at("promise 22, no OUT at " + at);
            y.set(1, at, 1);
            CHECK.due("degree(0, 0)", y.degree(0, 0), at == 0 ? -1 : at >= 1 && at <= 10 ? -2 : 0);
            y = Check.of("in x;in e;if x=e;z=1;else;out 0;end;");
            y.set(1, at, 1);
            CHECK.due("none there, 0 elsewhere: degree(0, 0)", y.degree(0, 0), at == 0 ? -1 : at >= 1 && at <= 10 ? -2 : 0);
            y = Check.of("in x;in e;if x=e;out 5;else;out 4;end;");
            y.set(1, at, 1);
            CHECK.due("another value there: degree(0, 0)", y.degree(0, 0), at >= 0 && at <= 10 ? -2 : 0);
        }
        // nine points on a curve of the eighth degree and two more beside it
        SlopeCompiler y = Check.of("in x;p=1;loop i 8;p=p*(x-i);end;if x=10;p=p+1;end;out p;");
        CHECK.due("the 11th beside it", y.degree(0, 0), -2);
        y = Check.of("in x;p=1;loop i 8;p=p*(x-i);end;if x=11;p=p+1;end;out p;");
        CHECK.due("the 12th beside it", y.degree(0, 0), 8);
        y = Check.of("in x;p=1;loop i 9;p=p*(x-i);end;out p;");
        CHECK.due("of the ninth", y.degree(0, 0), -2);
        y = Check.of("in x;p=1;loop i 11;p=p*(x-i);end;out p;");
        CHECK.due("0 at all of them", y.degree(0, 0), 0);
        y = Check.of("in x;p=1;loop i 10;p=p*(x-i);end;out p;");
        CHECK.due("0 at all but the last", y.degree(0, 0), -2);
    }

    /** "The least d 1 .. 100". */
    private static void bends() {
        for (int at : new int[] {1, 2, 99, 100, 101, 102, 1000}) {
            CHECK.at("promise 23, at " + at);
            for (String c : new String[] {"if x<@;end;", "if x=@;end;", "if x=@;if 1=1;end;end;", "if 1=1;end;y=1/(x-@);if 1=1;end;",
                "z=1;if 1=2;else;if x=@;else;end;end;"}) {
                SlopeCompiler x = Check.of("in x;in y;" + c.replace("@", String.valueOf(at)));
                CHECK.due("bends(0) of " + c, x.bends(0), at <= 100 ? at : -2);
                CHECK.due("bends(1) of " + c, x.bends(1), -2);
                range("i of bends", x::bends, 0, 1, -1);
            }
        }
        CHECK.at("promise 23");
        SlopeCompiler x = Check.of("in x;if x<0;end;");
        x.set(0, -1, 1);
        CHECK.due("from P less 1 to 0", x.bends(0), 1);
        x.set(0, -100, 1);
        CHECK.due("100 below 0", x.bends(0), 100);
        x.set(0, -101, 1);
        CHECK.due("101 below 0", x.bends(0), -2);
        x.set(0, 500000003, 1);
        CHECK.due("from the greatest to the least", x.bends(0), 1);
        x.set(0, 500000003 - 99, 1);
        CHECK.due("99 ahead of the greatest", x.bends(0), 100);
        x.set(0, 500000003 - 100, 1);
        CHECK.due("100 ahead of the greatest", x.bends(0), -2);
        x = Check.of("in x;y=1/x;if 1=1;end;");
        CHECK.due("an empty PATH, then one", x.bends(0), 1);
        x = Check.of("in x;out x;");
        CHECK.due("no TESTS", x.bends(0), -2);
        // 200 TESTS, so at one of them or at none
        x = Check.of("in x;y=x+100;n=0;loop i 10;loop j 20;if n=y;end;n=n+1;end;end;");
        CHECK.due("run(5)", x.run(5), 200);
        for (int k : new int[] {31, 32, 63, 64}) {
            x.set(0, k - 100, 1);
            CHECK.due("so at the " + k + "-th, then at the next", x.bends(0), 1);
        }
        x.set(0, 100, 1);
        CHECK.due("so at none", x.bends(0), -2);
        x.set(0, 99, 1);
        CHECK.due("so at the last one, then at none", x.bends(0), 1);
        x.set(0, -200, 1);
        CHECK.due("so at the first one by 100", x.bends(0), 100);
        x.set(0, -201, 1);
        CHECK.due("so at the first one by 101", x.bends(0), -2);
    }

    private static void hanging() {
        SlopeCompiler x = full();
        CHECK.at("promises 24, 25");
        range("k of hangs", k -> x.hangs(k, 0, 0), 0, 19, -1);
        range("k of hangs", k -> x.hangs(k, 0, 1), 0, 19, -1);
        range("i of hangs", i -> x.hangs(0, i, 1), 0, 3, -1);
        range("what of hangs", w -> x.hangs(0, 0, w), 0, 1, -1);
        for (int i : new int[] {MIN, -1, 4, MAX}) {
            CHECK.due("i is asked for 1 alone", x.hangs(0, i, 0), 400);
            CHECK.due("no such what", x.hangs(0, i, 2), -1);
        }
        CHECK.due("hangs(0, 0, 1)", x.hangs(0, 0, 1), 400);
        CHECK.due("hangs(0, 3, 1)", x.hangs(0, 3, 1), 0);
        range("k of back", k -> x.back(k, 0), 0, 19, -1);
        for (int i = 0; i < 400; i++) {
            CHECK.due("back(19, " + i + ")", x.back(19, i), 399 - i);
        }
        CHECK.due("back(19, 400)", x.back(19, 400), -2);
        CHECK.due("back(19, MAX)", x.back(19, MAX), -2);
        CHECK.due("back(19, -1)", x.back(19, -1), -1);
        CHECK.due("back(19, MIN)", x.back(19, MIN), -1);
        SlopeCompiler y = Check.of("in x;out x;out 3;out 1+1;");
        for (int k = 0; k < 3; k++) {
            CHECK.due("hangs(" + k + ", 0, 0)", y.hangs(k, 0, 0), k == 2 ? 1 : 0);
            CHECK.due("hangs(" + k + ", 0, 1)", y.hangs(k, 0, 1), 0);
            CHECK.due("back(" + k + ", 0)", y.back(k, 0), k == 2 ? 0 : -2);
            CHECK.due("back(" + k + ", 1)", y.back(k, 1), -2);
        }
    }

    private static void cost() {
        SlopeCompiler x = full();
        CHECK.at("promise 26");
        range("way of cost", way -> x.cost(way, 0), 0, 1, -1);
        range("which of cost forward", i -> x.cost(0, i), 0, 3, -1);
        range("which of cost backward", k -> x.cost(1, k), 0, 19, -1);
        CHECK.due("way 2", x.cost(2, 0), -1);
        // none, one, both operands HANG on x
        String[] es = {"2*3", "x*3", "3*x", "x*x", "2/3", "x/3", "3/x", "x/x", "x+x", "x-x", "y*x", "y/x", "x/y"};
        int[] byX = {0, 1, 1, 2, 0, 1, 2, 2, 0, 0, 1, 2, 1};
        int[] backward = {0, 1, 1, 2, 0, 1, 2, 2, 0, 0, 2, 2, 2};
        for (int t = 0; t < es.length; t++) {
            SlopeCompiler y = Check.of("in x;in y;out " + es[t] + ";");
            y.set(0, 4, 1);
            y.set(1, 5, 1);
            CHECK.due("forward of " + es[t], y.cost(0, 0), byX[t]);
            CHECK.due("backward of " + es[t], y.cost(1, 0), backward[t]);
        }
        SlopeCompiler y = Check.of("in x;in y;z=x*x;out y;out 4;");
        CHECK.due("no OUT HANGS on it: forward", y.cost(0, 0), 2);
        CHECK.due("no OUT HANGS on it: backward", y.cost(1, 0), 0);
        CHECK.due("an empty way", y.cost(0, 1), 0);
        CHECK.due("an empty way", y.cost(1, 1), 0);
    }

    private static void backward() {
        SlopeCompiler x = new SlopeCompiler();
        CHECK.at("promises 27, 28, 29");
        for (int at = 0; at <= 20; at++) {
            int c = at;
            range("l of few", l -> x.few(l, c), 1, 400, -1);
            CHECK.due("few(1, c)", x.few(1, c), 0);
            CHECK.due("few(2, c)", x.few(2, c), 1);
            if (c > 0) {
                range("l of split", l -> x.split(l, c), 2, 400, -1);
                CHECK.due("split(2, c)", x.split(2, c), 1);
            } else {
                for (int l = 0; l <= 401; l++) {
                    CHECK.due("split(" + l + ", 0)", x.split(l, 0), -1);
                }
            }
        }
        for (int l = 1; l <= 400; l++) {
            int length = l;
            range("c of few", c -> x.few(length, c), 0, 20, -1);
            range("n of states", n -> x.states(length, n), 0, MAX, -1);
            CHECK.due("few(l, 0)", x.few(l, 0), l * (l - 1) / 2);
            CHECK.due("states(l, l times l less 1 by 2)", x.states(l, l * (l - 1) / 2), 0);
            if (l > 1) {
                range("c of split", c -> x.split(length, c), 1, 20, -1);
                CHECK.due("a state more than none is one less", x.states(l, l * (l - 1) / 2 - 1), l == 2 ? -2 : 1);
                CHECK.due("states(l, l less 2): by none", x.states(l, l - 2), -2);
                CHECK.due("states(l, l less 1): each ENTRY once", x.states(l, l - 1), l <= 22 ? l - 2 : -2);
            }
            CHECK.due("states(l, 0)", x.states(l, 0), l == 1 ? 0 : -2);
        }
        range("l of states", l -> x.states(l, 100000), 1, 400, -1);
        CHECK.due("states(400, 79800)", x.states(400, 79800), 0);
        CHECK.due("states(400, 79799)", x.states(400, 79799), 1);
        int least = x.few(400, 20);
        CHECK.due("states(400, what 20 states need)", x.states(400, least), 20);
        CHECK.due("states(400, one less)", x.states(400, least - 1), -2);
    }

    private static void actions() {
        SlopeCompiler x = new SlopeCompiler();
        CHECK.at("promises 30, 31");
        for (int at = 0; at <= 2; at++) {
            int w = at;
            range("l of action", l -> x.action(l, 0, 0, w), 1, 60, -1);
            range("l of action", l -> x.action(l, 20, 0, w), 1, 60, -1);
            range("c of action", c -> x.action(60, c, 0, w), 0, 20, -1);
            range("l of actions", l -> x.actions(l, 0, w), 1, 60, -1);
            range("l of actions", l -> x.actions(l, 20, w), 1, 60, -1);
            range("c of actions", c -> x.actions(60, c, w), 0, 20, -1);
            range("c of actions", c -> x.actions(1, c, w), 0, 20, -1);
            range("n of action", n -> x.action(7, 2, n, w), 0, MAX, -1);
        }
        range("what of action", w -> x.action(60, 20, 0, w), 0, 2, -1);
        range("what of action", w -> x.action(60, 20, 9999, w), 0, 2, -1);
        range("what of actions", w -> x.actions(60, 20, w), 0, 2, -1);
        for (int l = 1; l <= 60; l++) {
            for (int c = 0; c <= 20; c++) {
                int last = x.actions(l, c, 0) - 1;
                CHECK.due("the last ACTION turns", x.action(l, c, last, 0), 2);
                CHECK.due("the last ACTION turns 0", x.action(l, c, last, 1), 0);
                CHECK.due("the last ACTION turns 0", x.action(l, c, last, 2), 0);
                CHECK.due("the first one goes, if there are two", x.action(l, c, 0, 0), l == 1 ? 2 : 0);
                for (int w = 0; w < 3; w++) {
                    CHECK.due("behind it", x.action(l, c, last + 1, w), -2);
                    CHECK.due("far behind it", x.action(l, c, MAX, w), -2);
                    CHECK.due("ahead of the first", x.action(l, c, -1, w), -1);
                }
                CHECK.due("most states KEPT", x.actions(l, c, 2) <= Math.min(c, Math.max(l - 1, 0)) ? 1 : 0, 1);
            }
            CHECK.due("one ACTION for one ENTRY", x.actions(1, l % 21, 0), 1);
        }
        CHECK.due("actions(22, 20, 2)", x.actions(22, 20, 2), 20);
        CHECK.due("actions(21, 20, 2)", x.actions(21, 20, 2), 20);
        CHECK.due("actions(60, 1, 2)", x.actions(60, 1, 2), 1);
    }

    /** "the least d 1 .. 22360 by which v times d, SIGNED, is -22360 .. 22360". */
    private static void fraction() {
        SlopeCompiler x = new SlopeCompiler();
        CHECK.at("promise 32");
        range("v of fraction", v -> x.fraction(v, 0), 0, P - 1, -40000);
        range("v of fraction", v -> x.fraction(v, 1), 0, P - 1, -40000);
        range("what of fraction", w -> x.fraction(5, w), 0, 1, -40000);
        range("what of fraction that there is none", w -> x.fraction(22361, w), 0, 1, -40000);
        int[][] there = {{22360, 1}, {-22360, 1}, {22359, 22360}, {-22359, 22360}, {1, 22360}, {-1, 22360}, {1, 22359}, {0, 1},
            {22360, 22359}, {-22360, 22359}, {22360, 3}, {-22360, 3}};
        for (int[] f : there) {
            CHECK.due(f[0] + " by " + f[1], x.fraction(Check.by(f[0], f[1]), 0), f[0]);
            CHECK.due(f[0] + " by " + f[1], x.fraction(Check.by(f[0], f[1]), 1), f[1]);
        }
        int[][] none = {{22361, 1}, {-22361, 1}, {1, 22361}, {-1, 22361}, {22361, 22360}, {22360, 22361}, {-22361, 2},
            {-22359, 22361}};
        for (int[] f : none) {
            CHECK.due(f[0] + " by " + f[1], x.fraction(Check.by(f[0], f[1]), 0), -30000);
            CHECK.due(f[0] + " by " + f[1], x.fraction(Check.by(f[0], f[1]), 1), -30000);
        }
        CHECK.due("22360 by 22360", x.fraction(1, 1), 1);
        CHECK.due("2 by 4", x.fraction(Check.by(2, 4), 1), 2);
        CHECK.due("500000003", x.fraction(500000003, 0), -1);
        CHECK.due("500000003", x.fraction(500000003, 1), 2);
        CHECK.due("500000004", x.fraction(500000004, 0), 1);
        CHECK.due("500000004", x.fraction(500000004, 1), 2);
    }

    /** "Of several answers that hold NONE goes first, then -2." */
    private static void noneAheadOfMissing() {
        CHECK.at("NONE goes first");
        SlopeCompiler x = Check.of("in x;in y;out 3;if x=0;out 4;end;");
        CHECK.due("newton: the SLOPE is 0", x.newton(0, 0, 1), -2);
        CHECK.due("newton: the SLOPE is 0, no such n", x.newton(0, 0, 0), -1);
        CHECK.due("newton: the SLOPE is 0, no such n", x.newton(0, 0, 21), -1);
        CHECK.due("newton: no such INPUT", x.newton(0, 2, 1), -1);
        CHECK.due("newton: no such OUT", x.newton(2, 0, 1), -1);
        CHECK.due("change: no OUT 1 then", x.change(1, 0, BILLION), -2);
        CHECK.due("change: no OUT 1 then, no such d", x.change(1, 0, BILLION + 1), -1);
        CHECK.due("change: no OUT 2 now or then", x.change(2, 0, 1), -1);
        CHECK.due("change: no such INPUT", x.change(1, 2, 1), -1);
        CHECK.due("degree: no OUT 1 then", x.degree(1, 0), -2);
        CHECK.due("degree: no such INPUT", x.degree(1, 2), -1);
        CHECK.due("degree: no such OUT", x.degree(2, 0), -1);
        CHECK.due("bends: by none", x.bends(1), -2);
        CHECK.due("bends: no such INPUT", x.bends(2), -1);
        CHECK.due("back: not so many", x.back(0, 0), -2);
        CHECK.due("back: no such OUT, not so many", x.back(2, 0), -1);
        CHECK.due("back: below 0", x.back(0, -1), -1);
        CHECK.due("back: no such OUT, below 0", x.back(2, -1), -1);
        CHECK.due("path: not so many", x.path(1), -2);
        CHECK.due("path: below 0", x.path(-1), -1);
        CHECK.due("states: by none", x.states(400, 0), -2);
        CHECK.due("states: by none, no such l", x.states(401, 0), -1);
        CHECK.due("states: by none, no such n", x.states(400, -1), -1);
        CHECK.due("action: not so many", x.action(3, 1, 99, 0), -2);
        CHECK.due("action: not so many, no such what", x.action(3, 1, 99, 3), -1);
        CHECK.due("action: not so many, no such what", x.action(3, 1, 99, -1), -1);
        CHECK.due("action: not so many, no such l", x.action(0, 1, 99, 0), -1);
        CHECK.due("action: not so many, no such l", x.action(61, 1, 99, 0), -1);
        CHECK.due("action: not so many, no such c", x.action(3, 21, 99, 0), -1);
        CHECK.due("action: not so many, no such c", x.action(3, -1, 99, 0), -1);
        CHECK.due("text: not so many", x.text(1), -2);
        CHECK.due("text: below 0", x.text(-1), -2);
        CHECK.due("run(1)", x.run(1), -2);
        CHECK.due("run(7)", x.run(7), -1);
    }
}
