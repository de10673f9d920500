/** Promises 1 to 26, 32 and 33 by hand: ordinary inputs, edges, wrong inputs (27 to 31: BackwardTest). */
public final class PromiseTest {
    private static final Check CHECK = new Check();
    private static final int P = 1000000007;
    private static final int BILLION = 1000000000;
    private static final int[] EXTREMES = {Integer.MIN_VALUE, -1, Integer.MAX_VALUE};

    private PromiseTest() {
    }

    public static void main(String[] args) {
        promise1();
        promise2();
        promise3();
        promise4();
        promise5();
        promise6();
        promise7();
        promises8And9();
        promise10();
        promise11();
        promise12();
        promise13();
        promises14And15();
        promises16And17();
        promises18And19();
        promise20();
        promise21();
        promise22();
        promise23();
        promises24And25();
        promise26();
        promise32();
        promise33();
        CHECK.end("PromiseTest");
    }

    private static void promise1() {
        CHECK.at("promise 1");
        SlopeCompiler x = new SlopeCompiler();
        CHECK.due("NONE", SlopeCompiler.NONE, -1);
        for (int w = 0; w <= 6; w++) {
            CHECK.due("count(" + w + ")", x.count(w), 0);
            CHECK.due("run(" + w + ")", x.run(w), w == 1 ? -2 : 0);
        }
        CHECK.due("fault(0)", x.fault(0), 0);
        CHECK.due("fault(1)", x.fault(1), -1);
        CHECK.due("rank()", x.rank(), 0);
        CHECK.due("bends(0)", x.bends(0), -1);
        CHECK.due("set(0, 1, 1)", x.set(0, 1, 1), -1);
        CHECK.due("text(0)", x.text(0), 0);
        CHECK.due("text(1)", x.text(1), -2);
    }

    private static void promise2() {
        CHECK.at("promise 2");
        SlopeCompiler x = new SlopeCompiler();
        // "in x", ";out", " x ;", "out ", "1 ; "
        CHECK.due("feed", x.feed(0x696e2078, 0x3b6f7574, 0x2078203b, 0x6f757420, 0x31203b20), 20);
        CHECK.due("text(20)", x.text(20), 3);
        for (int n = 1; n <= 45; n++) {
            CHECK.due("feed " + n, x.feed(0x20202020, 0x20202020, 0x20202020, 0x20202020, 0x20202020), 20 * n);
        }
        CHECK.due("a 46th", x.feed(1, 1, 1, 1, 1), -1);
        CHECK.due("count(6)", x.count(6), 900);
        CHECK.due("a 47th", x.feed(1, 1, 1, 1, 1), -1);
        CHECK.due("text(900), none have come", x.text(900), 0);
        CHECK.due("count(6)", x.count(6), 0);
        x.feed(0x2020ff20, 0, 0, 0, 0);
        CHECK.due("text(4)", x.text(4), -1);
        CHECK.due("fault(1)", x.fault(1), 2);
        x.feed(0x20202020, 0x20202080, 0, 0, 0);
        CHECK.due("text(8)", x.text(8), -1);
        CHECK.due("fault(1)", x.fault(1), 7);
        x.feed(-1, -1, -1, -1, -1);
        CHECK.due("text(20)", x.text(20), -1);
        CHECK.due("fault(1)", x.fault(1), 0);
    }

    private static void promise3() {
        CHECK.at("promise 3");
        SlopeCompiler x = Check.of("in x;y=x;out y;out 2;");
        x.set(0, 7, 1);
        CHECK.due("text(1), no bytes", x.text(1), -2);
        CHECK.due("text(-1)", x.text(-1), -2);
        Check.feed(x, Check.bytesOf("in q;out q*q;"));
        CHECK.due("text(21)", x.text(21), -2);
        CHECK.due("text(MIN)", x.text(Integer.MIN_VALUE), -2);
        CHECK.due("text(MAX)", x.text(Integer.MAX_VALUE), -2);
        CHECK.due("bytes stay", x.count(6), 20);
        CHECK.due("all stays", x.out(0, 0), 7);
        CHECK.due("text(6)", x.text(6), -1);
        CHECK.due("bytes are gone", x.count(6), 0);
        CHECK.due("all stays", x.out(0, 0), 7);
        CHECK.due("all stays", x.count(0), 4);
        Check.feed(x, Check.bytesOf("in q;out q*q;out 0;"));
        CHECK.due("text(13): bytes behind don't count", x.text(13), 2);
        CHECK.due("bytes are gone", x.count(6), 0);
        CHECK.due("inputs are 0", x.variable(0, 0), 0);
        CHECK.due("outs are new", x.run(3), 1);
        x.set(0, 3, 1);
        CHECK.due("same text", Check.text(x, "in q;out q*q;"), 2);
        CHECK.due("inputs are 0 anew", x.out(0, 0), 0);
        CHECK.due("text(0)", x.text(0), 0);
        CHECK.due("no inputs", x.count(1), 0);
        CHECK.due("no outs", x.run(3), 0);
        CHECK.due("no entries", x.run(4), 0);
        // the longest text: 900 bytes, 895 instructions and OUT
        StringBuilder longest = new StringBuilder("out 1");
        while (longest.length() < 899) {
            longest.append("+1");
        }
        longest.setLength(899);
        x = new SlopeCompiler();
        CHECK.due("900 bytes", Check.text(x, longest + ";"), 1);
        CHECK.due("instructions", x.count(5), 896);
        CHECK.due("stop 4", x.run(0), 4);
        CHECK.due("at", x.run(1), 802);
    }

    private static void promise4() {
        CHECK.at("promise 4");
        SlopeCompiler x = new SlopeCompiler();
        Check.text(x, "in x;in x;");
        CHECK.due("fault(0)", x.fault(0), 3);
        CHECK.due("fault(1)", x.fault(1), 8);
        CHECK.due("text(1)", x.text(1), -2);
        CHECK.due("stays: fault(0)", x.fault(0), 3);
        CHECK.due("stays: fault(1)", x.fault(1), 8);
        for (int w : new int[] {-1, 2, Integer.MIN_VALUE, Integer.MAX_VALUE}) {
            CHECK.due("fault(" + w + ")", x.fault(w), -1);
        }
        CHECK.due("text(0)", x.text(0), 0);
        CHECK.due("none: fault(0)", x.fault(0), 0);
        CHECK.due("none: fault(1)", x.fault(1), -1);
    }

    private static void promise5() {
        CHECK.at("promise 5");
        SlopeCompiler x = Check.of("in x;in y;z=5;out x;");
        CHECK.due("set(0, 1, 3)", x.set(0, 1, 3), 0);
        CHECK.due("set(0, -1, 3)", x.set(0, -1, 3), Check.by(1, 3));
        CHECK.due("set(0, 1e9, 1)", x.set(0, BILLION, 1), P - Check.by(1, 3));
        CHECK.due("set(0, -1e9, 1e9)", x.set(0, -BILLION, BILLION), BILLION);
        CHECK.due("out(0, 0)", x.out(0, 0), P - 1);
        CHECK.due("set(1, 4, 2)", x.set(1, 4, 2), 0);
        CHECK.due("x stays", x.variable(0, 0), P - 1);
        CHECK.due("y", x.variable(1, 0), 2);
        CHECK.due("a too great", x.set(0, BILLION + 1, 1), -1);
        CHECK.due("a too small", x.set(0, -BILLION - 1, 1), -1);
        CHECK.due("b 0", x.set(0, 1, 0), -1);
        CHECK.due("b below", x.set(0, 1, -1), -1);
        CHECK.due("b too great", x.set(0, 1, BILLION + 1), -1);
        CHECK.due("no input 2", x.set(2, 1, 1), -1);
        for (int n : EXTREMES) {
            CHECK.due("set(n, 1, 1)", x.set(n, 1, 1), -1);
            CHECK.due("set(0, 1, n)", x.set(0, 1, n), -1);
        }
        CHECK.due("set(0, MIN, 1)", x.set(0, Integer.MIN_VALUE, 1), -1);
        CHECK.due("set(0, MAX, 1)", x.set(0, Integer.MAX_VALUE, 1), -1);
        CHECK.due("nothing was set", x.variable(0, 0), P - 1);
        CHECK.due("set(0, 0, 5)", x.set(0, 0, 5), P - 1);
        CHECK.due("out(0, 0)", x.out(0, 0), 0);
    }

    /** The code of a text, three numbers an instruction. */
    private static void codeIs(String text, int... due) {
        CHECK.at("promise 6, " + text);
        SlopeCompiler x = Check.of(text);
        CHECK.due("count(5)", x.count(5), due.length / 3);
        for (int i = 0; i < due.length; i++) {
            CHECK.due("code(" + i / 3 + ", " + i % 3 + ")", Check.code(x, i / 3, i % 3), due[i]);
        }
        CHECK.due("no such one", Check.code(x, due.length / 3, 0), Check.OUT_OF_BOUNDS);
        CHECK.due("no such one, no such what", Check.code(x, due.length / 3, 3), Check.OUT_OF_BOUNDS);
        for (int n : EXTREMES) {
            CHECK.due("no such one", Check.code(x, n, 0), Check.OUT_OF_BOUNDS);
            CHECK.due("no such one, no such what", Check.code(x, n, n), Check.OUT_OF_BOUNDS);
            CHECK.due("no such what", Check.code(x, 0, n), due.length == 0 ? Check.OUT_OF_BOUNDS : Check.NO_ELEMENT);
        }
    }

    private static void promise6() {
        codeIs("in x;row a 3;alias b a 1;");
        codeIs("out 9999;", 0, 9999, 0, 9, 0, 0);
        codeIs("in x;in y;y = x;", 1, 0, 0, 7, 1, 0);
        codeIs("out 1+2*3-4/5;", 0, 1, 0, 0, 2, 0, 0, 3, 0, 5, 0, 0, 3, 0, 0, 0, 4, 0, 0, 5, 0, 6, 0, 0, 4, 0, 0, 9, 0, 0);
        codeIs("out 1-2-3;", 0, 1, 0, 0, 2, 0, 4, 0, 0, 0, 3, 0, 4, 0, 0, 9, 0, 0);
        codeIs("out 8/4*2;", 0, 8, 0, 0, 4, 0, 6, 0, 0, 0, 2, 0, 5, 0, 0, 9, 0, 0);
        codeIs("out 1-(2-3);", 0, 1, 0, 0, 2, 0, 0, 3, 0, 4, 0, 0, 4, 0, 0, 9, 0, 0);
        codeIs("row a 2;row b 2;b[a[1]]=a[0]+1;",
                0, 1, 0, 2, 0, 0, 0, 0, 0, 2, 0, 0, 0, 1, 0, 3, 0, 0, 8, 1, 0);
        codeIs("loop i 20;loop j 3;end;end;", 10, 0, 20, 10, 1, 3, 11, 2, 0, 11, 1, 0);
        codeIs("if 1<2;end;", 0, 1, 0, 0, 2, 0, 12, 3, 0);
        codeIs("if 1=2;x=3;end;", 0, 1, 0, 0, 2, 0, 13, 5, 0, 0, 3, 0, 7, 0, 0);
        codeIs("if 1=2;else;end;", 0, 1, 0, 0, 2, 0, 13, 4, 0, 14, 4, 0);
        codeIs("if 1<2;x=3;else;x=4;end;out x;", 0, 1, 0, 0, 2, 0, 12, 6, 0, 0, 3, 0, 7, 0, 0, 14, 8, 0,
                0, 4, 0, 7, 0, 0, 1, 0, 0, 9, 0, 0);
        codeIs("loop k 2;if k=0;loop j 7;end;else;end;end;", 10, 0, 2, 1, 0, 0, 0, 0, 0, 13, 7, 0, 10, 1, 7, 11, 5, 0,
                14, 7, 0, 11, 1, 0);
    }

    private static void promise7() {
        CHECK.at("promise 7");
        SlopeCompiler x = Check.of("row a 4;row b 8;alias c b 3;alias d c 4;alias e a 3;row f 1;");
        int[][] due = {{4, 0, 2}, {8, 4, 3}, {5, 7, 3}, {1, 11, 3}, {1, 3, 2}, {1, 12, 1}};
        for (int r = 0; r < due.length; r++) {
            for (int w = 0; w < 3; w++) {
                CHECK.due("row(" + r + ", " + w + ")", x.row(r, w), due[r][w]);
            }
        }
        CHECK.due("row(6, 0)", x.row(6, 0), -1);
        CHECK.due("row(0, 3)", x.row(0, 3), -1);
        for (int n : EXTREMES) {
            CHECK.due("row(n, 0)", x.row(n, 0), -1);
            CHECK.due("row(0, n)", x.row(0, n), -1);
        }
        CHECK.due("cells", x.count(4), 13);
    }

    private static void promises8And9() {
        CHECK.at("promises 8, 9");
        SlopeCompiler x = Check.of("in x;in y;row a 3;alias b a 1;z=x;loop x 3;w=x;end;a[0]=y;b[0]=a[0]+1;v=b[0];b[1]=z;y=4;");
        x.set(0, 9, 1);
        x.set(1, 5, 1);
        int[][] variables = {{2, -2}, {4, -2}, {9, 1000}, {2, -2}, {6, 0}};
        int[][] cells = {{5, 1001}, {6, 0}, {9, 1000}};
        for (int w = 0; w < 2; w++) {
            for (int v = 0; v < variables.length; v++) {
                CHECK.due("variable(" + v + ", " + w + ")", x.variable(v, w), variables[v][w]);
            }
            for (int c = 0; c < cells.length; c++) {
                CHECK.due("cell(" + c + ", " + w + ")", x.cell(c, w), cells[c][w]);
            }
        }
        CHECK.due("variable(5, 0)", x.variable(5, 0), -10);
        CHECK.due("cell(3, 0)", x.cell(3, 0), -10);
        CHECK.due("variable(0, 2)", x.variable(0, 2), -10);
        CHECK.due("cell(0, 2)", x.cell(0, 2), -10);
        for (int n : EXTREMES) {
            CHECK.due("variable(n, 0)", x.variable(n, 0), -10);
            CHECK.due("variable(0, n)", x.variable(0, n), -10);
            CHECK.due("cell(n, 0)", x.cell(n, 0), -10);
            CHECK.due("cell(0, n)", x.cell(0, n), -10);
        }
        x = Check.of("row a 2;x=7;out 1/0;x=8;a[0]=1;");
        CHECK.due("behind a stop: x", x.variable(0, 0), 7);
        CHECK.due("behind a stop: a[0]", x.cell(0, 0), 0);
        CHECK.due("0 at first", x.cell(1, 1), -2);
        x = Check.of("loop i 3;i=i+9;end;out i;");
        CHECK.due("the variable stays", x.out(0, 0), 11);
        CHECK.due("the variable stays", x.out(0, 1), 2);
        CHECK.due("what next told", x.entry(1, 2), 1);
        CHECK.due("what next told", x.entry(1, 4), -2);
    }

    private static void promise10() {
        CHECK.at("promise 10");
        SlopeCompiler x = Check.of("in x;out x;out 0-x;out x*x;out 3;");
        x.set(0, 2, 1);
        int[][] due = {{2, 1000}, {P - 2, 0}, {4, 1}, {3, -2}};
        for (int k = 0; k < due.length; k++) {
            CHECK.due("out(" + k + ", 0)", x.out(k, 0), due[k][0]);
            CHECK.due("out(" + k + ", 1)", x.out(k, 1), due[k][1]);
        }
        CHECK.due("out(4, 0)", x.out(4, 0), -10);
        CHECK.due("out(0, 2)", x.out(0, 2), -10);
        for (int n : EXTREMES) {
            CHECK.due("out(n, 0)", x.out(n, 0), -10);
            CHECK.due("out(0, n)", x.out(0, n), -10);
        }
    }

    private static void runIs(String text, int... due) {
        CHECK.at("promise 11, " + text);
        SlopeCompiler x = Check.of(text);
        for (int w = 0; w < 7; w++) {
            CHECK.due("run(" + w + ")", x.run(w), due[w]);
        }
        CHECK.due("run(7)", x.run(7), -1);
        for (int n : EXTREMES) {
            CHECK.due("run(n)", x.run(n), -1);
        }
    }

    private static void promise11() {
        runIs("", 0, -2, 0, 0, 0, 0, 0);
        runIs("out 1/0;", 1, 2, 2, 0, 0, 0, 0);
        runIs("out 1/(5-5);", 1, 4, 4, 0, 1, 0, 0);
        runIs("row a 2;a[1]=1;a[2]=1;", 2, 5, 5, 0, 0, 0, 0);
        runIs("row a 2;out a[0-1];", 2, 3, 3, 0, 1, 0, 0);
        runIs("row a 4;alias b a 3;b[0]=2;out a[3];out b[1];", 2, 7, 7, 1, 0, 0, 0);
        runIs("out 3;if 1<1;out 4;end;if 1=1;out 5;end;", 0, -2, 10, 2, 0, 2, 1);
        runIs("if 0-1<0;end;if 0<0-1;end;if 5<7;else;end;", 0, -2, 14, 0, 2, 3, 2);
        // 1 + 20 (1 + 20 (6 + 1) + 1) are 2841, 78 times two are 156, three more are 3000
        String loops = "loop i 20;loop j 20;x=1;x=1;x=1;end;end;";
        String rest = "x=1;".repeat(78);
        runIs(loops + rest + "if 1=1;end;", 0, -2, 3000, 0, 0, 1, 1);
        runIs(loops + rest + "if 1=1;end;out 1;", 3, 169, 3000, 0, 0, 1, 1);
        runIs(loops + rest + "x=1;out 1/0;", 3, 169, 3000, 0, 0, 0, 0);
        runIs(loops + rest + "out 1;out 1/0;", 3, 169, 3000, 1, 0, 0, 0);
        runIs(loops + rest + "x=1/0;", 1, 168, 2999, 0, 0, 0, 0);
        String full = "loop i 20;loop j 20;x=i+j;end;end;";
        runIs(full, 0, -2, 2041, 0, 400, 0, 0);
        runIs(full + "out 1+1;", 4, 10, 2043, 0, 400, 0, 0);
        runIs(full + "out 1/1;", 4, 10, 2043, 0, 400, 0, 0);
        runIs(full + "out 1/0;", 1, 10, 2043, 0, 400, 0, 0);
        runIs(full + "out 2;", 0, -2, 2043, 1, 400, 0, 0);
        runIs("loop i 20;out i;end;", 0, -2, 61, 20, 0, 0, 0);
        runIs("loop i 20;out i;end;out 1;", 5, 5, 62, 20, 0, 0, 0);
    }

    private static void promise12() {
        CHECK.at("promise 12");
        SlopeCompiler x = Check.of("loop i 20;loop j 20;if i<j;end;end;end;");
        CHECK.due("tests", x.run(5), 400);
        CHECK.due("of these so", x.run(6), 190);
        for (int k = 0; k < 400; k++) {
            CHECK.due("path(" + k + ")", x.path(k), k / 20 < k % 20 ? 1 : 0);
        }
        CHECK.due("path(400)", x.path(400), -2);
        CHECK.due("path(MAX)", x.path(Integer.MAX_VALUE), -2);
        CHECK.due("path(-1)", x.path(-1), -1);
        CHECK.due("path(MIN)", x.path(Integer.MIN_VALUE), -1);
        x = Check.of("in x;loop i 20;loop j 20;if x=i;end;if j=x;end;if i=j;end;end;end;");
        x.set(0, 19, 1);
        CHECK.due("stops", x.run(0), 3);
        int tests = x.run(5);
        CHECK.due("path(at the end)", x.path(tests), -2);
        CHECK.due("path(1 + 3 * 19)", x.path(58), 1);
        CHECK.due("path(1 + 3 * 18)", x.path(55), 0);
        // twelve rounds of 80 tests and 35 more: 1 + 12 * 241 + 107 instructions
        x = Check.of("loop i 20;" + "if 1=1;end;".repeat(80) + "end;");
        CHECK.due("a long path", x.run(5), 995);
        CHECK.due("all so", x.run(6), 995);
        CHECK.due("path(994)", x.path(994), 1);
        CHECK.due("path(995)", x.path(995), -2);
        x = Check.of("in x;if x<1;end;");
        x.set(0, 500000003, 1);
        CHECK.due("the greatest above 0", x.path(0), 0);
        x.set(0, 500000004, 1);
        CHECK.due("is below 0", x.path(0), 1);
    }

    private static void promise13() {
        CHECK.at("promise 13");
        SlopeCompiler x = Check.of("in x;in y;a=x+3;b=a-y;c=b*b;d=c/x;out c;out d;out a*2;out y;");
        x.set(0, 2, 1);
        x.set(1, 1, 1);
        int[][] due = {
            {3, 5, 2, 3, 1000, -2, 2, 3, 1},
            {4, 4, 5, 1, 0, 1001, 6, 2, 3},
            {5, 16, 4, 4, 1, 1, 10, 2, 3},
            {6, 8, 16, 2, 2, 1000, 14, 1, 3},
            {5, 10, 5, 2, 0, -2, 22, 1, 1}};
        for (int e = 0; e < due.length; e++) {
            for (int w = 0; w < 9; w++) {
                CHECK.due("entry(" + e + ", " + w + ")", x.entry(e, w), due[e][w]);
            }
        }
        CHECK.due("entry(5, 0)", x.entry(5, 0), -10);
        CHECK.due("entry(0, 9)", x.entry(0, 9), -10);
        for (int n : EXTREMES) {
            CHECK.due("entry(n, 0)", x.entry(n, 0), -10);
            CHECK.due("entry(0, n)", x.entry(0, n), -10);
        }
    }

    /** f is (x x + y) by (x less y), at 3 and 1: 5, its slopes 1 by 2 and 3. */
    private static SlopeCompiler quotient() {
        SlopeCompiler x = Check.of("in x;in y;out (x*x+y)/(x-y);out x;out 5;out x-x;");
        x.set(0, 3, 1);
        x.set(1, 1, 1);
        return x;
    }

    private static void promises14And15() {
        CHECK.at("promises 14, 15");
        SlopeCompiler x = quotient();
        int[][] slopes = {{Check.by(1, 2), 3}, {1, 0}, {0, 0}, {0, 0}};
        for (int k = 0; k < 4; k++) {
            for (int i = 0; i < 2; i++) {
                CHECK.due("slope(" + k + ", " + i + ")", x.slope(k, i), slopes[k][i]);
            }
        }
        // entries: x x, and y, x less y, the quotient, x less x
        int[] bars = {Check.by(1, 2), Check.by(1, 2), Check.by(-5, 2), 1, 0};
        for (int e = 0; e < bars.length; e++) {
            CHECK.due("bar(0, " + e + ")", x.bar(0, e), bars[e]);
            CHECK.due("bar(1, " + e + ")", x.bar(1, e), 0);
            CHECK.due("bar(3, " + e + ")", x.bar(3, e), e == 4 ? 1 : 0);
        }
        CHECK.due("slope(4, 0)", x.slope(4, 0), -1);
        CHECK.due("slope(0, 2)", x.slope(0, 2), -1);
        CHECK.due("bar(4, 0)", x.bar(4, 0), -1);
        CHECK.due("bar(0, 5)", x.bar(0, 5), -1);
        CHECK.due("bar(0, 1000)", x.bar(0, 1000), -1);
        for (int n : EXTREMES) {
            CHECK.due("slope(n, 0)", x.slope(n, 0), -1);
            CHECK.due("slope(0, n)", x.slope(0, n), -1);
            CHECK.due("bar(n, 0)", x.bar(n, 0), -1);
            CHECK.due("bar(0, n)", x.bar(0, n), -1);
        }
        CHECK.at("promise 14: which cell, which way is taken doesn't count");
        x = Check.of("in x;row a 3;a[x]=x*x;if x<5;y=a[x];end;loop x 2;end;out y;out x;out a[2];");
        x.set(0, 2, 1);
        CHECK.due("slope(0, 0)", x.slope(0, 0), 4);
        CHECK.due("slope(1, 0)", x.slope(1, 0), 0);
        CHECK.due("slope(2, 0)", x.slope(2, 0), 4);
        // the entry of a product twice over: z is e0 e0, by e0 it is 2 e0
        x = Check.of("in x;y=x+1;out y*y;");
        x.set(0, 6, 1);
        CHECK.due("bar(0, 0)", x.bar(0, 0), 14);
        CHECK.due("slope(0, 0)", x.slope(0, 0), 14);
    }

    private static void promises16And17() {
        CHECK.at("promises 16, 17");
        SlopeCompiler x = quotient();
        int[] second = {Check.by(1, 2), Check.by(-5, 4), Check.by(-5, 4), 3};
        for (int i = 0; i < 2; i++) {
            for (int j = 0; j < 2; j++) {
                CHECK.due("second(0, " + i + ", " + j + ")", x.second(0, i, j), second[2 * i + j]);
                CHECK.due("second(1, " + i + ", " + j + ")", x.second(1, i, j), 0);
                CHECK.due("second(2, " + i + ", " + j + ")", x.second(2, i, j), 0);
            }
        }
        CHECK.due("turned(0, 0, 4, 8, 9, 9)", x.turned(0, 0, 4, 8, 9, 9), P - 8);
        CHECK.due("turned(0, 1, -4, 2, 9, 9)", x.turned(0, 1, -4, 2, 9, 9), 11);
        CHECK.due("turned(0, 1, MIN, MAX, 0, 0)", x.turned(0, 1, Integer.MIN_VALUE, Integer.MAX_VALUE, 0, 0),
                Check.by(5L * (1L << 31) + 12L * Integer.MAX_VALUE, 4));
        CHECK.due("second(4, 0, 0)", x.second(4, 0, 0), -1);
        CHECK.due("second(0, 2, 0)", x.second(0, 2, 0), -1);
        CHECK.due("second(0, 0, 2)", x.second(0, 0, 2), -1);
        CHECK.due("turned(4, 0, ..)", x.turned(4, 0, 1, 1, 1, 1), -1);
        CHECK.due("turned(0, 2, ..)", x.turned(0, 2, 1, 1, 1, 1), -1);
        for (int n : EXTREMES) {
            CHECK.due("second(n, 0, 0)", x.second(n, 0, 0), -1);
            CHECK.due("second(0, n, 0)", x.second(0, n, 0), -1);
            CHECK.due("second(0, 0, n)", x.second(0, 0, n), -1);
            CHECK.due("turned(n, 0, ..)", x.turned(n, 0, 1, 1, 1, 1), -1);
            CHECK.due("turned(0, n, ..)", x.turned(0, n, 1, 1, 1, 1), -1);
        }
        x = Check.of("in a;in b;in c;in d;out a*b*c*d;");
        for (int i = 0; i < 4; i++) {
            x.set(i, i + 2, 1);
        }
        CHECK.due("second(0, 0, 3)", x.second(0, 0, 3), 12);
        CHECK.due("second(0, 2, 2)", x.second(0, 2, 2), 0);
        CHECK.due("turned(0, 0, 1, 10, 100, 1000)", x.turned(0, 0, 1, 10, 100, 1000), 10 * 20 + 100 * 15 + 1000 * 12);
    }

    private static void promises18And19() {
        CHECK.at("promises 18, 19");
        SlopeCompiler x = Check.of("in a;in b;in c;in d;out b+c*0;out a*2+d;out c+d*3;out a+b+c+d;out a*4+d*2;");
        // rows: 0 1 0 0, 2 0 0 1, 0 0 1 3, 1 1 1 1, 4 0 0 2
        CHECK.due("determinant(1)", x.determinant(1), 0);
        CHECK.due("determinant(2)", x.determinant(2), P - 2);
        CHECK.due("determinant(3)", x.determinant(3), P - 2);
        CHECK.due("determinant(4)", x.determinant(4), 5);
        CHECK.due("determinant(5)", x.determinant(5), -1);
        CHECK.due("determinant(0)", x.determinant(0), -1);
        for (int n : EXTREMES) {
            CHECK.due("determinant(n)", x.determinant(n), -1);
        }
        CHECK.due("rank()", x.rank(), 4);
        x = Check.of("in a;in b;out a;");
        CHECK.due("not so many outs", x.determinant(2), -1);
        CHECK.due("determinant(1)", x.determinant(1), 1);
        x = Check.of("in a;out a;out a;");
        CHECK.due("not so many inputs", x.determinant(2), -1);
        CHECK.due("rank()", x.rank(), 1);
        x = Check.of("in a;in b;in c;out a+b;out a+b+a+b;out 3;out (a+b)/7;");
        CHECK.due("determinant(2)", x.determinant(2), 0);
        CHECK.due("rank()", x.rank(), 1);
        x = Check.of("in a;in b;out 3;out 4;");
        CHECK.due("rank() of 0", x.rank(), 0);
        x = Check.of("in a;in b;");
        CHECK.due("rank() without outs", x.rank(), 0);
        x = Check.of("in a;in b;in c;loop i 17;out 5;end;out c;out b;out c+b;");
        CHECK.due("rank() of late ones", x.rank(), 2);
    }

    private static void promise20() {
        CHECK.at("promise 20");
        SlopeCompiler x = Check.of("in y;in x;out x*x-2;out y;out 4;");
        x.set(1, 1, 1);
        CHECK.due("newton(0, 1, 1)", x.newton(0, 1, 1), Check.by(3, 2));
        CHECK.due("newton(0, 1, 2)", x.newton(0, 1, 2), Check.by(17, 12));
        CHECK.due("newton(0, 1, 3)", x.newton(0, 1, 3), Check.by(577, 408));
        CHECK.due("nothing changes", x.variable(1, 0), 1);
        CHECK.due("newton(0, 0, 1): the slope is 0", x.newton(0, 0, 1), -2);
        CHECK.due("newton(2, 0, 1): the slope is 0", x.newton(2, 0, 1), -2);
        CHECK.due("newton(1, 0, 20)", x.newton(1, 0, 20), 0);
        CHECK.due("newton(3, 0, 1)", x.newton(3, 0, 1), -1);
        CHECK.due("newton(0, 2, 1)", x.newton(0, 2, 1), -1);
        CHECK.due("newton(0, 0, 0)", x.newton(0, 0, 0), -1);
        CHECK.due("newton(0, 0, 21)", x.newton(0, 0, 21), -1);
        for (int n : EXTREMES) {
            CHECK.due("newton(n, 1, 1)", x.newton(n, 1, 1), -1);
            CHECK.due("newton(0, n, 1)", x.newton(0, n, 1), -1);
            CHECK.due("newton(0, 1, n)", x.newton(0, 1, n), -1);
        }
        x = Check.of("in x;if x<6;y=1/x;end;out x;");
        x.set(0, 5, 1);
        CHECK.due("newton to where no out is", x.newton(0, 0, 1), 0);
        CHECK.due("no out any more", x.newton(0, 0, 2), -2);
        x.set(0, 0, 1);
        CHECK.due("no out at first", x.newton(0, 0, 2), -1);
        x = Check.of("in x;out x*x+1;");
        x.set(0, 1, 1);
        CHECK.due("newton(0, 0, 1)", x.newton(0, 0, 1), 0);
        CHECK.due("the slope is 0 then", x.newton(0, 0, 2), -2);
    }

    private static void promise21() {
        CHECK.at("promise 21");
        SlopeCompiler x = Check.of("in x;in y;out x*x+y;if x<3;out 7/y;end;");
        x.set(0, 2, 1);
        x.set(1, 5, 1);
        CHECK.due("change(0, 0, 1)", x.change(0, 0, 1), 5);
        CHECK.due("change(0, 0, -1)", x.change(0, 0, -1), P - 3);
        CHECK.due("change(0, 0, 0)", x.change(0, 0, 0), 0);
        CHECK.due("change(0, 1, 1e9)", x.change(0, 1, BILLION), BILLION);
        CHECK.due("change(0, 1, -1e9)", x.change(0, 1, -BILLION), 7);
        CHECK.due("change(0, 1, 1e9 and 1)", x.change(0, 1, BILLION + 1), -1);
        CHECK.due("change(0, 1, -1e9 less 1)", x.change(0, 1, -BILLION - 1), -1);
        CHECK.due("change(1, 0, 1)", x.change(1, 0, 1), -2);
        CHECK.due("change(1, 0, -9)", x.change(1, 0, -9), 0);
        CHECK.due("change(1, 1, -5)", x.change(1, 1, -5), -2);
        CHECK.due("change(1, 1, 2)", x.change(1, 1, 2), Check.by(-2, 5));
        CHECK.due("change(2, 0, 1)", x.change(2, 0, 1), -1);
        CHECK.due("change(0, 2, 1)", x.change(0, 2, 1), -1);
        for (int n : EXTREMES) {
            CHECK.due("change(n, 0, 1)", x.change(n, 0, 1), -1);
            CHECK.due("change(0, n, 1)", x.change(0, n, 1), -1);
        }
        CHECK.due("change(0, 0, MIN)", x.change(0, 0, Integer.MIN_VALUE), -1);
        CHECK.due("change(0, 0, MAX)", x.change(0, 0, Integer.MAX_VALUE), -1);
        CHECK.due("nothing changes", x.out(0, 0), 9);
    }

    private static void promise22() {
        CHECK.at("promise 22");
        for (int n = 0; n <= 10; n++) {
            SlopeCompiler x = Check.of("in x;in y;out 3" + "*x".repeat(n) + "+y;");
            x.set(0, -4, 1);
            CHECK.due("a power of " + n, x.degree(0, 0), n <= 8 ? n : -2);
            CHECK.due("by y", x.degree(0, 1), 1);
        }
        SlopeCompiler x = Check.of("in x;in y;out 5;out x;if x<10;out y;end;out 1/(x-15);");
        CHECK.due("degree(0, 0)", x.degree(0, 0), 0);
        CHECK.due("degree(1, 0)", x.degree(1, 0), 1);
        CHECK.due("degree(1, 1)", x.degree(1, 1), 0);
        CHECK.due("degree(2, 1)", x.degree(2, 1), 1);
        CHECK.due("degree(3, 0): none", x.degree(3, 0), -2);
        CHECK.due("degree(4, 0)", x.degree(4, 0), -1);
        CHECK.due("degree(0, 2)", x.degree(0, 2), -1);
        for (int n : EXTREMES) {
            CHECK.due("degree(n, 0)", x.degree(n, 0), -1);
            CHECK.due("degree(0, n)", x.degree(0, n), -1);
        }
        x = Check.of("in x;if x<10;out 1;else;y=1/(x-10);end;");
        CHECK.due("no out in the last run", x.degree(0, 0), -2);
        x = Check.of("in x;if x<11;out 1;else;y=1/(x-11);end;");
        CHECK.due("no out just behind", x.degree(0, 0), 0);
        x = Check.of("in x;if x<10;y=1;else;y=2;end;out y;");
        CHECK.due("the last one of ten differs", x.degree(0, 0), -2);
        x.set(0, -1, 1);
        CHECK.due("it differs behind", x.degree(0, 0), 0);
    }

    private static void promise23() {
        CHECK.at("promise 23");
        SlopeCompiler x = Check.of("in x;in y;if x<100;end;if y=7;end;");
        CHECK.due("bends(0)", x.bends(0), 100);
        CHECK.due("bends(1)", x.bends(1), 7);
        x.set(0, -1, 1);
        CHECK.due("bends(0)", x.bends(0), -2);
        x.set(1, 7, 1);
        CHECK.due("bends(1)", x.bends(1), 1);
        CHECK.due("bends(2)", x.bends(2), -1);
        for (int n : EXTREMES) {
            CHECK.due("bends(n)", x.bends(n), -1);
        }
        CHECK.due("nothing changes", x.variable(1, 0), 7);
        x = Check.of("in x;out x;");
        CHECK.due("no tests", x.bends(0), -2);
        x = Check.of("in x;if 1<2;end;y=1/(x-4);if 1<2;end;");
        CHECK.due("a shorter path is another", x.bends(0), 4);
        x.set(0, 4, 1);
        CHECK.due("a longer path is another", x.bends(0), 1);
        x = Check.of("in x;y=1/x;if x=0;end;");
        CHECK.due("from none to one", x.bends(0), 1);
        x = Check.of("in x;loop i 20;loop j 3;if i*3+j<x;end;end;end;");
        x.set(0, 33, 1);
        CHECK.due("the 34th test", x.bends(0), 1);
        x.set(0, 60, 1);
        CHECK.due("all are so", x.bends(0), -2);
    }

    private static void promises24And25() {
        CHECK.at("promises 24, 25");
        SlopeCompiler x = Check.of("in x;in y;a=x+1;b=y*2;c=3*3;d=a*c;out d-b;out a;out x;out c/c;");
        // entries: a 0, b 1, c 2, d 3, d less b 4, c by c 5
        int[] all = {5, 1, 0, 2};
        int[] byX = {3, 1, 0, 0};
        int[] byY = {2, 0, 0, 0};
        for (int k = 0; k < 4; k++) {
            CHECK.due("hangs(" + k + ", 9, 0)", x.hangs(k, 9, 0), all[k]);
            CHECK.due("hangs(" + k + ", 0, 1)", x.hangs(k, 0, 1), byX[k]);
            CHECK.due("hangs(" + k + ", 1, 1)", x.hangs(k, 1, 1), byY[k]);
        }
        int[][] back = {{4, 3, 2, 1, 0}, {0}, {}, {5, 2}};
        for (int k = 0; k < 4; k++) {
            for (int i = 0; i <= back[k].length; i++) {
                CHECK.due("back(" + k + ", " + i + ")", x.back(k, i), i < back[k].length ? back[k][i] : -2);
            }
        }
        CHECK.due("hangs(4, 0, 0)", x.hangs(4, 0, 0), -1);
        CHECK.due("hangs(0, 2, 1)", x.hangs(0, 2, 1), -1);
        CHECK.due("hangs(0, 0, 2)", x.hangs(0, 0, 2), -1);
        CHECK.due("back(4, 0)", x.back(4, 0), -1);
        CHECK.due("back(0, MAX)", x.back(0, Integer.MAX_VALUE), -2);
        CHECK.due("back(0, -1)", x.back(0, -1), -1);
        for (int n : EXTREMES) {
            CHECK.due("hangs(n, 0, 0)", x.hangs(n, 0, 0), -1);
            CHECK.due("hangs(0, n, 1)", x.hangs(0, n, 1), -1);
            CHECK.due("hangs(0, n, 0)", x.hangs(0, n, 0), 5);
            CHECK.due("hangs(0, 0, n)", x.hangs(0, 0, n), -1);
            CHECK.due("back(n, 0)", x.back(n, 0), -1);
        }
    }

    private static void promise26() {
        CHECK.at("promise 26");
        SlopeCompiler x = Check.of("in x;in y;a=x*x;b=a*2;c=b/3;d=4/c;e=y*a;f=2*3;b=6/2;c=x-x;out d+f;out e*b;out f/b;out c*1;");
        x.set(0, 1, 1);
        // forward by x: a 2, b 1, c 1, d 2, e 1, e times b 1, c times 1 1; by y: e 1, e times b 1
        CHECK.due("cost(0, 0)", x.cost(0, 0), 9);
        CHECK.due("cost(0, 1)", x.cost(0, 1), 2);
        // backward of d + f: a 2, b 1, c 1, d 2; of e times b: a 2, e 2, itself 1; of f by b none; of the last one 1
        CHECK.due("cost(1, 0)", x.cost(1, 0), 6);
        CHECK.due("cost(1, 1)", x.cost(1, 1), 5);
        CHECK.due("cost(1, 2)", x.cost(1, 2), 0);
        CHECK.due("cost(1, 3)", x.cost(1, 3), 1);
        CHECK.due("cost(1, 4)", x.cost(1, 4), -1);
        CHECK.due("cost(0, 2)", x.cost(0, 2), -1);
        CHECK.due("cost(2, 0)", x.cost(2, 0), -1);
        for (int n : EXTREMES) {
            CHECK.due("cost(n, 0)", x.cost(n, 0), -1);
            CHECK.due("cost(0, n)", x.cost(0, n), -1);
            CHECK.due("cost(1, n)", x.cost(1, n), -1);
        }
        x = Check.of("in x;out 6/x/x;");
        x.set(0, 2, 1);
        CHECK.due("6 by x by x forward", x.cost(0, 0), 4);
        CHECK.due("6 by x by x backward", x.cost(1, 0), 4);
    }

    private static void promise32() {
        CHECK.at("promise 32");
        SlopeCompiler x = new SlopeCompiler();
        int[][] cases = {{0, 1}, {1, 1}, {-1, 1}, {22360, 1}, {-22360, 1}, {1, 22360}, {-22360, 22359}, {22359, 22360},
            {-7, 3}, {577, 408}};
        for (int[] c : cases) {
            int v = Check.by(c[0], c[1]);
            CHECK.due("top of " + c[0] + " by " + c[1], x.fraction(v, 0), c[0]);
            CHECK.due("bottom of " + c[0] + " by " + c[1], x.fraction(v, 1), c[1]);
        }
        CHECK.due("not in its least form", x.fraction(Check.by(6, 4), 1), 2);
        CHECK.due("22361 is no fraction", x.fraction(22361, 0), -30000);
        CHECK.due("22361 is no fraction", x.fraction(22361, 1), -30000);
        CHECK.due("1 by 22361 is none", x.fraction(Check.by(1, 22361), 1), -30000);
        CHECK.due("fraction(P, 0)", x.fraction(P, 0), -40000);
        CHECK.due("fraction(1, 2)", x.fraction(1, 2), -40000);
        CHECK.due("fraction(22361, 2)", x.fraction(22361, 2), -40000);
        for (int n : EXTREMES) {
            CHECK.due("fraction(n, 0)", x.fraction(n, 0), -40000);
            CHECK.due("fraction(1, n)", x.fraction(1, n), -40000);
        }
    }

    private static void promise33() {
        CHECK.at("promise 33");
        SlopeCompiler x = Check.of("in x;row a 3;alias b a 1;row c 8;loop i 2;y=x;end;");
        x.feed(1, 2, 3, 4, 5);
        x.feed(1, 2, 3, 4, 5);
        int[] due = {7, 1, 3, 3, 11, 4, 40};
        for (int w = 0; w < due.length; w++) {
            CHECK.due("count(" + w + ")", x.count(w), due[w]);
        }
        CHECK.due("count(7)", x.count(7), -1);
        for (int n : EXTREMES) {
            CHECK.due("count(n)", x.count(n), -1);
        }
    }
}
