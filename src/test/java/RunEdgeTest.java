/** The bounds of NUMBERS, of the CODE and of a RUN, Terms 2: the last that is still done, the first that is not. */
public final class RunEdgeTest {
    private static final Check CHECK = new Check();
    private static final int P = 1000000007;
    private static final int GREATEST_SIGNED = 500000003;
    /** 400 ENTRIES by 2041 instructions. */
    private static final String FULL_TAPE = "loop i 20;loop j 20;x=1+1;end;end;";
    private static final int FULL_TAPE_STEPS = 2041;
    /** 20 OUTS by 61 instructions. */
    private static final String FULL_OUTS = "loop i 20;out i;end;";
    private static final int FULL_OUTS_STEPS = 61;

    private RunEdgeTest() {
    }

    public static void main(String[] args) {
        numbersWrapAround();
        divisions();
        signed();
        alike();
        ends();
        loops();
        loopsWithinLoops();
        stopsByEach();
        stopsOfTheLastInstruction();
        stopsOfSeveralAtOnce();
        cellsThatAreNot();
        whatItDidSoFar();
        exactlyFull();
        nothingIsLeftOfTheRunBefore();
        sources();
        CHECK.end("RunEdgeTest");
    }

    /** Text that does exactly that many instructions (not 1), by loops where it can. */
    private static String pad(int steps) {
        String[] texts = {"loop i 20;loop j 20;x=1;x=1;x=1;end;end;", "loop i 20;loop j 20;end;end;", "loop i 20;end;",
            "if 1=1;end;", "x=1;"};
        int[] takes = {2841, 441, 21, 3, 2};
        StringBuilder text = new StringBuilder();
        int left = steps;
        for (int t = 0; t < takes.length; t++) {
            while (takes[t] <= left && left - takes[t] != 1) {
                text.append(texts[t]);
                left -= takes[t];
            }
        }
        if (left != 0) {
            throw new IllegalStateException("no text of " + steps);
        }
        return text.toString();
    }

    /** An object with the text, its INPUTS set in turn to a by 1. */
    private static SlopeCompiler with(String text, int... inputs) {
        SlopeCompiler x = Check.of(text);
        for (int i = 0; i < inputs.length; i++) {
            x.set(i, inputs[i], 1);
        }
        CHECK.at(text);
        return x;
    }

    private static void outIs(String e, int due, int... inputs) {
        String text = "in a;in b;out " + e + ";";
        SlopeCompiler x = with(text, inputs);
        CHECK.due("out(0, 0)", x.out(0, 0), due);
    }

    /** "NUMBERS are what is left by P (0 .. P less 1)". */
    private static void numbersWrapAround() {
        outIs("a+1", 0, -1);
        outIs("a+2", 1, -1);
        outIs("a+0", P - 1, -1);
        outIs("a+a", P - 2, -1);
        outIs("a-0", P - 1, -1);
        outIs("0-1", P - 1);
        outIs("0-0", 0);
        outIs("1-1", 0);
        outIs("0-a", 1, -1);
        outIs("0-9999", P - 9999);
        outIs("a-b", 1, 0, -1);
        outIs("a-b", P - 1, -1, 0);
        outIs("a*a", 1, -1);
        outIs("a*a*a", P - 1, -1);
        outIs("a*0", 0, -1);
        outIs("a*2", P - 2, -1);
        outIs("a*b", P - 1, GREATEST_SIGNED + 1, -2);
        outIs("a+b", 0, GREATEST_SIGNED, GREATEST_SIGNED + 1);
        outIs("a+b", P - 1, GREATEST_SIGNED, GREATEST_SIGNED);
        outIs("a+7", 0, 1000000000);
        outIs("a+6", P - 1, 1000000000);
        outIs("9999*9999", 99980001);
        outIs("9999*9999*9999", (int) (9999L * 9999 * 9999 % P));
        outIs("a", 7, -1000000000);
        outIs("a", 1000000000, 1000000000);
    }

    /** "a by b is the number that b times makes a"; "DIVIDE by 0". */
    private static void divisions() {
        outIs("0/5", 0);
        outIs("5/1", 5);
        outIs("a/a", 1, -1);
        outIs("1/a", P - 1, -1);
        outIs("a/b", 1, GREATEST_SIGNED, GREATEST_SIGNED);
        outIs("1/2", GREATEST_SIGNED + 1);
        outIs("1/3*3", 1);
        outIs("7/9999*9999", 7);
        outIs("1/a*a", 1, 1000000000);
        outIs("1/(a+8)", 1, 1000000000);
        for (String zero : new String[] {"0", "(a-a)", "(a+7)", "b", "(0*a)", "(0/a)", "(1-1)"}) {
            SlopeCompiler x = with("in a;in b;out 1/" + zero + ";", 1000000000, 0);
            CHECK.due("run(0)", x.run(0), 1);
            CHECK.due("run(3)", x.run(3), 0);
            CHECK.due("run(1): the DIVIDE", Check.code(x, x.run(1), 0), 6);
            CHECK.due("run(1): the last one but OUT", x.run(1), x.count(5) - 2);
        }
        SlopeCompiler x = with("out 0/0;");
        CHECK.due("0 by 0", x.run(0), 1);
    }

    /** "SIGNED: above 500000003 it is P less. LESS compares SIGNED ones." */
    private static void signed() {
        int[] rising = {GREATEST_SIGNED + 1, GREATEST_SIGNED + 2, -1000, -2, -1, 0, 1, 2, 9999, GREATEST_SIGNED - 1,
            GREATEST_SIGNED};
        for (int i = 0; i < rising.length; i++) {
            for (int j = 0; j < rising.length; j++) {
                SlopeCompiler x = with("in a;in b;if a<b;out 1;else;out 0;end;", rising[i], rising[j]);
                CHECK.due("path(0) of " + rising[i] + " < " + rising[j], x.path(0), i < j ? 1 : 0);
                CHECK.due("out(0, 0)", x.out(0, 0), i < j ? 1 : 0);
                CHECK.due("run(6)", x.run(6), i < j ? 1 : 0);
            }
        }
    }

    /** "if alike": by P. */
    private static void alike() {
        int[][] pairs = {{-1, -1, 1}, {-7, 1000000000, 1}, {7, -1000000000, 1}, {0, 0, 1}, {1, -1, 0},
            {GREATEST_SIGNED, GREATEST_SIGNED + 1, 0}, {GREATEST_SIGNED, -GREATEST_SIGNED - 1, 1},
            {GREATEST_SIGNED, -GREATEST_SIGNED, 0}};
        for (int[] pair : pairs) {
            SlopeCompiler x = with("in a;in b;if a=b;end;", pair[0], pair[1]);
            CHECK.due("path(0) of " + pair[0] + " = " + pair[1], x.path(0), pair[2]);
        }
    }

    /** Instructions that lead behind the last one; empty blocks. */
    private static void ends() {
        String[] texts = {"if 1=1;end;", "if 1=2;end;", "if 1=1;else;end;", "if 1=2;else;end;", "loop i 1;end;",
            "if 1=2;x=1;else;if 1=2;x=1;end;end;"};
        int[] steps = {3, 3, 4, 3, 2, 6};
        for (int t = 0; t < texts.length; t++) {
            SlopeCompiler x = with(texts[t]);
            CHECK.due("run(0)", x.run(0), 0);
            CHECK.due("run(1)", x.run(1), -2);
            CHECK.due("run(2)", x.run(2), steps[t]);
        }
        SlopeCompiler x = with("if 1=1;x=1;else;x=2;end;");
        CHECK.due("TEST leads behind JUMP", Check.code(x, 2, 1), 6);
        CHECK.due("JUMP leads behind the last one", Check.code(x, 5, 1), x.count(5));
        x = with("if 1=1;x=1;end;");
        CHECK.due("TEST leads behind the last one", Check.code(x, 2, 1), x.count(5));
        x = with("if 1=1;if 2=2;else;end;end;");
        CHECK.due("TEST leads behind all", Check.code(x, 2, 1), 7);
        CHECK.due("the inner one behind JUMP", Check.code(x, 5, 1), 7);
        CHECK.due("JUMP behind all", Check.code(x, 6, 1), 7);
    }

    /** "LOOP: the VARIABLE is 0 .. NEXT: .. if that isn't N .. else on behind (the VARIABLE stays)". */
    private static void loops() {
        for (int n : new int[] {1, 2, 19, 20}) {
            SlopeCompiler x = with("loop i " + n + ";out i;end;");
            CHECK.due("run(3)", x.run(3), n);
            CHECK.due("run(2)", x.run(2), 1 + 3 * n);
            for (int k = 0; k < n; k++) {
                CHECK.due("out(" + k + ", 0)", x.out(k, 0), k);
                CHECK.due("out(" + k + ", 1)", x.out(k, 1), -2);
            }
            CHECK.due("the VARIABLE stays", x.variable(0, 0), n - 1);
            CHECK.due("its SOURCE", x.variable(0, 1), -2);
        }
        SlopeCompiler x = with("in i;loop i 1;end;out i;", 77);
        CHECK.due("an INPUT that a LOOP takes", x.out(0, 0), 0);
        CHECK.due("an INPUT that a LOOP takes", x.out(0, 1), -2);
        CHECK.due("set answers what the INPUT was", x.set(0, 1, 1), 77);
        x = with("in i;if 1=2;loop i 3;end;end;out i;", 77);
        CHECK.due("a LOOP that isn't come to", x.out(0, 0), 77);
        CHECK.due("a LOOP that isn't come to", x.out(0, 1), 1000);
        x = with("loop i 3;out i;i=20;end;out i;");
        int[] due = {0, 1, 2, 20};
        for (int k = 0; k < due.length; k++) {
            CHECK.due("rounds count, not the VARIABLE: out(" + k + ", 0)", x.out(k, 0), due[k]);
        }
    }

    private static void loopsWithinLoops() {
        SlopeCompiler x = with("loop i 2;loop i 3;out i;end;out i+10;end;out i+100;");
        int[] due = {0, 1, 2, 12, 0, 1, 2, 12, 102};
        CHECK.due("run(3)", x.run(3), due.length);
        for (int k = 0; k < due.length; k++) {
            CHECK.due("out(" + k + ", 0)", x.out(k, 0), due[k]);
        }
        x = with("loop a 2;loop b 2;loop c 2;loop d 2;out a*8+b*4+c*2+d;end;end;end;end;");
        CHECK.due("four deep: run(3)", x.run(3), 16);
        for (int k = 0; k < 16; k++) {
            CHECK.due("four deep: out(" + k + ", 0)", x.out(k, 0), k);
        }
        x = with("loop a 2;loop b 1;loop c 3;loop d 2;out a*6+c*2+d;end;end;end;end;");
        CHECK.due("four deep, of other N: run(3)", x.run(3), 12);
        for (int k = 0; k < 12; k++) {
            CHECK.due("four deep, of other N: out(" + k + ", 0)", x.out(k, 0), k);
        }
        x = with("loop a 3;if a=1;loop b 2;out a*10+b;end;else;loop b 1;out a*10+b+5;end;end;end;");
        int[] mixed = {5, 10, 11, 25};
        CHECK.due("loops in ifs: run(3)", x.run(3), mixed.length);
        for (int k = 0; k < mixed.length; k++) {
            CHECK.due("loops in ifs: out(" + k + ", 0)", x.out(k, 0), mixed[k]);
        }
    }

    /** The text stops by that cause at an instruction of that kind, behind that many done. */
    private static void stopIs(String text, int cause, int kind, int done) {
        SlopeCompiler x = with(text);
        CHECK.due("run(0)", x.run(0), cause);
        CHECK.due("run(2)", x.run(2), done);
        if (cause == 0) {
            CHECK.due("run(1)", x.run(1), -2);
        } else {
            CHECK.due("the instruction's kind", Check.code(x, x.run(1), 0), kind);
        }
    }

    private static void stopsByEach() {
        stopIs("x=1/1;", 0, 0, 4);
        stopIs("x=1/0;", 1, 6, 2);
        stopIs("row a 1;x=a[0];", 0, 0, 3);
        stopIs("row a 1;x=a[1];", 2, 2, 1);
        stopIs("row a 1;a[0]=1;", 0, 0, 3);
        stopIs("row a 1;a[1]=1;", 2, 8, 2);
        stopIs(pad(2998) + "x=1;", 0, 0, 3000);
        stopIs(pad(2999) + "x=1;", 3, 7, 3000);
        stopIs(pad(3000), 0, 0, 3000);
        stopIs(pad(3000) + "x=1;", 3, 0, 3000);
        stopIs(pad(3000) + "if 1=1;end;", 3, 0, 3000);
        stopIs(pad(3000) + "loop i 1;end;", 3, 10, 3000);
        stopIs(pad(2999) + "loop i 1;end;", 3, 11, 3000);
        stopIs(pad(2998) + "loop i 1;end;", 0, 0, 3000);
        stopIs("x=x;" + pad(2998), 0, 0, 3000);
        stopIs("x=x;" + pad(2999), 3, pad(2999).endsWith("x=1;") ? 7 : 12, 3000);
        stopIs(pad(2996) + "if 1=1;else;end;", 0, 0, 3000);
        stopIs(pad(2997) + "if 1=1;else;end;", 3, 14, 3000);
        stopIs(pad(2997) + "if 1=2;else;end;", 0, 0, 3000);
        stopIs(pad(2998) + "if 1=2;else;end;", 3, 13, 3000);
        stopIs(pad(2998) + "if 1<2;end;", 3, 12, 3000);
        for (int op = 0; op < 4; op++) {
            char sign = "+-*/".charAt(op);
            stopIs(FULL_TAPE, 0, 0, FULL_TAPE_STEPS);
            stopIs(FULL_TAPE + "x=1" + sign + "1;", 4, 3 + op, FULL_TAPE_STEPS + 2);
            stopIs(FULL_TAPE.replace('+', sign) + "x=1+1;", 4, 3, FULL_TAPE_STEPS + 2);
            stopIs("x=1;loop i 19;x=x+i;end;" + FULL_TAPE.replace("loop i 20", "loop i 19") + "x=1" + sign + "1;",
                    0, 0, 2 + 1 + 19 * 5 + 1 + 19 * 102 + 4);
            stopIs("loop i 20;x=x+i;end;" + FULL_TAPE.replace("loop i 20", "loop i 19") + "x=1" + sign + "1;",
                    4, 3 + op, 1 + 20 * 5 + 1 + 19 * 102 + 2);
        }
        stopIs(FULL_OUTS, 0, 0, FULL_OUTS_STEPS);
        stopIs(FULL_OUTS + "out 1;", 5, 9, FULL_OUTS_STEPS + 1);
        stopIs("loop i 19;out i;end;out 1;", 0, 0, 60);
        stopIs("loop i 19;out i;end;out 1;out 2;", 5, 9, 61);
    }

    /** Behind that many steps of the head comes what stops: as the 3000th by its own cause, as the 3001st by 3. */
    private static void lastInstruction(String head, int headSteps, String last, int ahead, int cause, int kind) {
        String rows = "row a 1;";
        stopIs(rows + head + last, cause, kind, headSteps + ahead);
        stopIs(rows + head + pad(2998 - headSteps - ahead) + last, cause, kind, 2998);
        stopIs(rows + head + pad(2999 - headSteps - ahead) + last, cause, kind, 2999);
        stopIs(rows + head + pad(3000 - headSteps - ahead) + last, 3, kind, 3000);
    }

    /** "of several at once the least, but 3 ahead of all". */
    private static void stopsOfTheLastInstruction() {
        lastInstruction("", 0, "x=1/0;", 2, 1, 6);
        lastInstruction("", 0, "x=a[1];", 1, 2, 2);
        lastInstruction("", 0, "a[1]=1;", 2, 2, 8);
        lastInstruction(FULL_OUTS, FULL_OUTS_STEPS, "out 1;", 1, 5, 9);
        lastInstruction(FULL_TAPE, FULL_TAPE_STEPS, "x=1+1;", 2, 4, 3);
        lastInstruction(FULL_TAPE, FULL_TAPE_STEPS, "x=1-1;", 2, 4, 4);
        lastInstruction(FULL_TAPE, FULL_TAPE_STEPS, "x=1*1;", 2, 4, 5);
        lastInstruction(FULL_TAPE, FULL_TAPE_STEPS, "x=1/1;", 2, 4, 6);
        lastInstruction(FULL_TAPE, FULL_TAPE_STEPS, "x=1/0;", 2, 1, 6);
    }

    private static void stopsOfSeveralAtOnce() {
        stopIs(FULL_TAPE + "x=1/0;", 1, 6, FULL_TAPE_STEPS + 2);
        stopIs(FULL_TAPE + "x=1/1;", 4, 6, FULL_TAPE_STEPS + 2);
        // one after another: the first one that is come to
        stopIs("row a 1;" + FULL_TAPE + "x=a[1]+1;", 2, 2, FULL_TAPE_STEPS + 1);
        stopIs("row a 1;" + FULL_TAPE + "x=1+a[1];", 2, 2, FULL_TAPE_STEPS + 2);
        stopIs("row a 1;" + FULL_TAPE + "a[1]=1+1;", 4, 3, FULL_TAPE_STEPS + 3);
        stopIs("row a 1;" + FULL_OUTS + "out a[1];", 2, 2, FULL_OUTS_STEPS + 1);
        stopIs(FULL_OUTS + "out 1/0;", 1, 6, FULL_OUTS_STEPS + 2);
        stopIs(FULL_TAPE + FULL_OUTS + "out 1+1;", 4, 3, FULL_TAPE_STEPS + FULL_OUTS_STEPS + 2);
        stopIs(FULL_TAPE + FULL_OUTS + "out 1;x=1+1;", 5, 9, FULL_TAPE_STEPS + FULL_OUTS_STEPS + 1);
    }

    /** "a CELL that isn't (FETCH, PUT)": of rows and aliases of each length, on each side. */
    private static void cellsThatAreNot() {
        for (int n = 1; n <= 8; n++) {
            for (int from = 0; from < n; from++) {
                String rows = "in i;row z 8;row a " + n + ";alias b a " + from + ";row y 8;";
                int length = n - from;
                int[] which = {-1000000000, -1, 0, length - 1, length, length + 1, n, 8, 9999, 1000000000};
                for (int i : which) {
                    boolean there = i >= 0 && i < length || i == -1000000000 && length > 7;
                    SlopeCompiler x = with(rows + "b[i]=5;", i);
                    CHECK.due("PUT at " + i, x.run(0), there ? 0 : 2);
                    int cell = 8 + from + (i < 0 ? 7 : i);
                    for (int c = 0; c < 16 + n; c++) {
                        CHECK.due("PUT at " + i + ": cell(" + c + ", 0)", x.cell(c, 0), there && c == cell ? 5 : 0);
                    }
                    x = with(rows + "loop k 8;z[k]=6;y[k]=6;end;loop k " + n + ";a[k]=k+20;end;out b[i];", i);
                    CHECK.due("FETCH at " + i, x.run(0), there ? 0 : 2);
                    CHECK.due("FETCH at " + i, x.out(0, 0), there ? cell - 8 + 20 : -10);
                }
            }
        }
    }

    /** "What it did so far is told; the instruction at which it STOPS isn't done". */
    private static void whatItDidSoFar() {
        String ahead = "in p;row a 2;y=7;a[0]=3;z=p*3;if 1=1;if 1=2;end;end;";
        String[] heads = {"out 11;", "out 11;", "out 11;", "out 11;" + pad(3000 - 17),
            "out 11;loop i 19;loop j 20;x=1+1;end;end;loop i 19;x=1+1;end;", FULL_OUTS};
        String[] lasts = {"a[1]=1/0;", "a[2]=4;", "y=a[2];", "", "a[1]=1+1;", "out 12;"};
        int[] causes = {1, 2, 2, 3, 4, 5};
        for (int t = 0; t < causes.length; t++) {
            String text = ahead + heads[t] + lasts[t] + "y=8;a[0]=4;a[1]=9;z=p;out 13;if 1=1;end;";
            SlopeCompiler x = with(text, 5);
            CHECK.due("run(0)", x.run(0), causes[t]);
            CHECK.due("variable(0, 0)", x.variable(0, 0), 5);
            CHECK.due("variable(1, 0)", x.variable(1, 0), 7);
            CHECK.due("variable(2, 0)", x.variable(2, 0), 15);
            CHECK.due("variable(2, 1)", x.variable(2, 1), 0);
            CHECK.due("cell(0, 0)", x.cell(0, 0), 3);
            CHECK.due("cell(1, 0)", x.cell(1, 0), 0);
            CHECK.due("run(3)", x.run(3), causes[t] == 5 ? 20 : 1);
            CHECK.due("out(0, 0)", x.out(0, 0), causes[t] == 5 ? 0 : 11);
            CHECK.due("run(4)", x.run(4), causes[t] == 4 ? 400 : 1);
            CHECK.due("entry(0, 1)", x.entry(0, 1), 15);
            CHECK.due("path(0)", x.path(0), 1);
            CHECK.due("path(1)", x.path(1), 0);
        }
    }

    /** All that a RUN may do, and all of it is told. */
    private static void exactlyFull() {
        SlopeCompiler x = with("in p;x=1;loop i 20;loop j 20;x=x+p;end;end;loop i 20;out x;end;", 1);
        CHECK.due("run(0)", x.run(0), 0);
        CHECK.due("run(4)", x.run(4), 400);
        CHECK.due("run(3)", x.run(3), 20);
        CHECK.due("out(19, 0)", x.out(19, 0), 401);
        CHECK.due("out(19, 1)", x.out(19, 1), 399);
        CHECK.due("out(20, 0)", x.out(20, 0), -10);
        CHECK.due("entry(399, 1)", x.entry(399, 1), 401);
        CHECK.due("entry(399, 4)", x.entry(399, 4), 398);
        CHECK.due("entry(399, 7)", x.entry(399, 7), 20);
        CHECK.due("entry(0, 7)", x.entry(0, 7), 20);
        CHECK.due("entry(399, 8)", x.entry(399, 8), 1);
        CHECK.due("entry(400, 0)", x.entry(400, 0), -10);
        CHECK.due("slope(19, 0)", x.slope(19, 0), 400);
        CHECK.due("bar(19, 0)", x.bar(19, 0), 1);
        CHECK.due("bar(19, 399)", x.bar(19, 399), 1);
        CHECK.due("bar(19, 400)", x.bar(19, 400), -1);
        CHECK.due("bar(20, 0)", x.bar(20, 0), -1);
        CHECK.due("hangs(19, 0, 0)", x.hangs(19, 0, 0), 400);
        CHECK.due("hangs(19, 0, 1)", x.hangs(19, 0, 1), 400);
        CHECK.due("back(19, 0)", x.back(19, 0), 399);
        CHECK.due("back(19, 399)", x.back(19, 399), 0);
        CHECK.due("back(19, 400)", x.back(19, 400), -2);
        CHECK.due("rank()", x.rank(), 1);
        CHECK.due("degree(19, 0)", x.degree(19, 0), 1);
        CHECK.due("change(19, 0, 1)", x.change(19, 0, 1), 400);
        x = with("in p;x=1;loop i 20;loop j 20;x=x*p;end;end;out x;", -1);
        CHECK.due("400 MULTIPLIES: cost(0, 0)", x.cost(0, 0), 799);
        CHECK.due("400 MULTIPLIES: cost(1, 0)", x.cost(1, 0), 799);
        CHECK.due("slope(0, 0)", x.slope(0, 0), P - 400);
        CHECK.due("second(0, 0, 0)", x.second(0, 0, 0), 400 * 399);
        x = with("in p;x=p;loop i 20;loop j 20;x=x/p;end;end;out x;", -1);
        CHECK.due("400 DIVIDES: cost(0, 0)", x.cost(0, 0), 800);
        CHECK.due("400 DIVIDES: cost(1, 0)", x.cost(1, 0), 800);
        CHECK.due("slope(0, 0)", x.slope(0, 0), P - 399);
        CHECK.due("second(0, 0, 0)", x.second(0, 0, 0), P - 399 * 400);
    }

    /** "VARIABLES that are INPUTS have their values (0 at first), all else is 0": in each RUN. */
    private static void nothingIsLeftOfTheRunBefore() {
        SlopeCompiler x = with("in p;row a 2;x=x+1;a[1]=a[1]+1;loop i 3;out 1+2*(3/p)+x;end;out a[1];");
        for (int turn = 0; turn < 5; turn++) {
            CHECK.due("by 0: run(0)", x.run(0), 1);
            CHECK.due("by 0: run(3)", x.run(3), 0);
            CHECK.due("by 0: run(4)", x.run(4), 2);
            CHECK.due("x", x.variable(1, 0), 1);
            CHECK.due("a[1]", x.cell(1, 0), 1);
            x.set(0, 3, 1);
            CHECK.due("by 3: run(0)", x.run(0), 0);
            CHECK.due("by 3: run(3)", x.run(3), 4);
            CHECK.due("by 3: run(4)", x.run(4), 14);
            CHECK.due("by 3: out(2, 0)", x.out(2, 0), 4);
            CHECK.due("by 3: out(3, 0)", x.out(3, 0), 1);
            CHECK.due("x", x.variable(1, 0), 1);
            CHECK.due("i", x.variable(2, 0), 2);
            CHECK.due("set back", x.set(0, 0, 1), 3);
        }
        CHECK.due("another text", Check.text(x, "in p;row b 3;y=y+1;out b[2];out y;"), 5);
        CHECK.due("INPUTS 0", x.variable(0, 0), 0);
        CHECK.due("CELLS 0", x.out(0, 0), 0);
        CHECK.due("VARIABLES 0", x.out(1, 0), 1);
        theFirstOnesAreZero();
        theStackIsEmpty();
        noLoopIsOpen();
    }

    /** VARIABLE 0 and CELL 0, in the RUN and in those that are only tried. */
    private static void theFirstOnesAreZero() {
        SlopeCompiler x = with("out 1/0;");
        for (int turn = 0; turn < 3; turn++) {
            Check.text(x, "row a 1;x=x+1;a[0]=a[0]+2;out x;out a[0];");
            CHECK.due("run(0)", x.run(0), 0);
            CHECK.due("VARIABLE 0", x.out(0, 0), 1);
            CHECK.due("CELL 0", x.out(1, 0), 2);
        }
        x = with("in p;row a 1;a[0]=a[0]+p;out a[0];", 4);
        for (int turn = 0; turn < 3; turn++) {
            CHECK.due("set", x.set(0, 4, 1), 4);
            CHECK.due("out(0, 0)", x.out(0, 0), 4);
            CHECK.due("change(0, 0, 5)", x.change(0, 0, 5), 5);
            CHECK.due("degree(0, 0)", x.degree(0, 0), 1);
            CHECK.due("newton(0, 0, 1)", x.newton(0, 0, 1), 0);
        }
        for (String none : new String[] {"", "in p;", "row a 1;"}) {
            Check.text(x, "row a 1;if 1=1;out 3+4;end;out a[1];");
            CHECK.due("it stops: run(0)", x.run(0), 2);
            Check.text(x, none);
            int[] due = {0, -2, 0, 0, 0, 0, 0};
            for (int w = 0; w < 7; w++) {
                CHECK.due("nothing to do: run(" + w + ")", x.run(w), due[w]);
            }
        }
    }

    /** A RUN that stops within four LOOPS, then one that goes through them, and again. */
    private static void noLoopIsOpen() {
        SlopeCompiler x = with("in p;loop a 2;loop b 1;loop c 3;loop d 2;y=1/p;out a*6+c*2+d;end;end;end;end;");
        for (int turn = 0; turn < 4; turn++) {
            CHECK.due("by 0: run(0)", x.run(0), 1);
            CHECK.due("by 0: run(2)", x.run(2), 6);
            x.set(0, 1, 1);
            CHECK.due("by 1: run(0)", x.run(0), 0);
            CHECK.due("by 1: run(3)", x.run(3), 12);
            for (int k = 0; k < 12; k++) {
                CHECK.due("by 1: out(" + k + ", 0)", x.out(k, 0), k);
            }
            x.set(0, 0, 1);
        }
    }

    /** As many of each instruction as a RUN does, then the E that needs the most room. */
    private static void theStackIsEmpty() {
        String deepest = "1+2*(".repeat(8) + "1+2*3" + ")".repeat(8);
        String[] often = {"a[1]=1;a[1]=2;", "x=a[0];x=a[1];", "if 1=2;end;", "x=1;x=x;", "if 1=1;else;end;", "loop k 1;end;"};
        for (String lines : often) {
            SlopeCompiler x = with("row a 2;loop i 20;loop j 15;" + lines + "end;end;a[0]=" + deepest + ";if 5<" + deepest
                    + ";out a[0];end;");
            CHECK.due("run(0)", x.run(0), 0);
            CHECK.due("out(0, 0)", x.out(0, 0), 2047);
        }
        SlopeCompiler x = with("loop i 19;out i;end;out " + deepest + ";");
        CHECK.due("out(19, 0)", x.out(19, 0), 2047);
    }

    /** "SOURCE of a value": the first and the last of each kind. */
    private static void sources() {
        SlopeCompiler x = with("in a;in b;in c;in d;row r 3;out a;out d;r[0]=d;out r[0];out r[1];e=a+d;out e;f=e;r[2]=f;out r[2];"
                + "out 9999;loop i 2;end;out i;a=b;out a;b=5;out b;g=g;out g;");
        int[] due = {1000, 1003, 1003, -2, 0, 0, -2, -2, 1001, -2, -2};
        CHECK.due("run(3)", x.run(3), due.length);
        for (int k = 0; k < due.length; k++) {
            CHECK.due("out(" + k + ", 1)", x.out(k, 1), due[k]);
        }
        for (int inputs = 0; inputs <= 4; inputs++) {
            SlopeCompiler y = with("in a;in b;in c;in d;".substring(0, 5 * inputs) + "if 1=2;x=1;y=1;end;out x;");
            for (int v = 0; v < inputs + 2; v++) {
                CHECK.due("variable(" + v + ", 0)", y.variable(v, 0), 0);
                CHECK.due("0 at first: variable(" + v + ", 1)", y.variable(v, 1), v < inputs ? 1000 + v : -2);
            }
            CHECK.due("out(0, 1)", y.out(0, 1), -2);
        }
        CHECK.due("entry(0, 4)", x.entry(0, 4), 1000);
        CHECK.due("entry(0, 5)", x.entry(0, 5), 1003);
        CHECK.due("entry(0, 8)", x.entry(0, 8), 9);
        CHECK.due("cell(1, 1)", x.cell(1, 1), -2);
        CHECK.due("cell(2, 1)", x.cell(2, 1), 0);
        CHECK.due("variable(0, 1)", x.variable(0, 1), 1001);
        CHECK.due("variable(3, 1)", x.variable(3, 1), 1003);
    }
}
