import java.util.ArrayList;
import java.util.List;

/** "What is asked changes nothing", nor does what is refused; and an object answers for all of its 512 calls. */
public final class NothingChangesTest {
    private static final Check CHECK = new Check();
    private static final int MIN = Integer.MIN_VALUE;
    private static final int MAX = Integer.MAX_VALUE;
    private static final int BILLION = 1000000000;
    private static final int LIFE = 512;

    private interface Call {
        int on(SlopeCompiler x);
    }

    private record Named(String name, Call call) {
    }

    private NothingChangesTest() {
    }

    public static void main(String[] args) {
        List<Named> asked = asked();
        List<Named> refused = refused();
        for (Named n : asked) {
            leavesAll(n);
        }
        for (Named n : refused) {
            leavesAll(n);
        }
        allInTurn(asked, refused);
        for (Named n : asked) {
            lastsForLife(n);
            makesNoObjects(n);
        }
        textsForLife();
        setsForLife();
        noCallThrowsBehindIt(asked, refused);
        CHECK.end("NothingChangesTest");
    }

    /** An object with something of all: a FAULT that was told, INPUTS set, forty bytes that wait. */
    private static SlopeCompiler prepared() {
        SlopeCompiler x = Check.of("in p;in q;row a 3;alias b a 1;n=2;loop i 3;a[i]=p*i+q/n;if i<p;n=n+1;else;n=n-1;end;end;"
                + "out b[1];out p*q*n;out 5;out p;");
        Check.text(x, "in p;in p;");
        x.set(0, 1, 2);
        x.set(1, -7, 3);
        CHECK.due("feed", Check.feed(x, Check.bytesOf("in w;y=w*w+3;out y;out w-8;")), 40);
        return x;
    }

    private static void leavesAll(Named n) {
        CHECK.at(n.name);
        SlopeCompiler x = prepared();
        int[] before = Snapshot.ofAll(x);
        int first = n.call.on(x);
        CHECK.due("changes nothing", Snapshot.firstOther(before, Snapshot.ofAll(x)), -1);
        CHECK.due("answers the same again", n.call.on(x), first);
        CHECK.due("fault(0)", x.fault(0), 3);
        CHECK.due("fault(1)", x.fault(1), 8);
        theBytesAreTheSame(x);
    }

    private static void theBytesAreTheSame(SlopeCompiler x) {
        CHECK.due("the bytes are as they were", x.text(40), 4);
        x.set(0, 3, 1);
        CHECK.due("the bytes are as they were", x.out(0, 0), 12);
        CHECK.due("the bytes are as they were", x.out(1, 0), Check.by(-5, 1));
    }

    private static void allInTurn(List<Named> asked, List<Named> refused) {
        CHECK.at("all in turn");
        SlopeCompiler x = prepared();
        int[] before = Snapshot.ofAll(x);
        for (Named n : asked) {
            n.call.on(x);
        }
        for (Named n : refused) {
            n.call.on(x);
        }
        CHECK.due("nothing changed", Snapshot.firstOther(before, Snapshot.ofAll(x)), -1);
        theBytesAreTheSame(x);
    }

    private static List<Named> asked() {
        List<Named> calls = new ArrayList<>();
        calls.add(new Named("fault(0)", x -> x.fault(0)));
        calls.add(new Named("fault(1)", x -> x.fault(1)));
        calls.add(new Named("code(4, 1)", x -> x.count(5) > 4 ? Check.code(x, 4, 1) : 0));
        calls.add(new Named("row(1, 2)", x -> x.row(1, 2)));
        calls.add(new Named("variable(2, 0)", x -> x.variable(2, 0)));
        calls.add(new Named("cell(2, 1)", x -> x.cell(2, 1)));
        calls.add(new Named("out(1, 0)", x -> x.out(1, 0)));
        calls.add(new Named("run(4)", x -> x.run(4)));
        calls.add(new Named("path(2)", x -> x.path(2)));
        calls.add(new Named("entry(2, 7)", x -> x.entry(2, 7)));
        calls.add(new Named("entry(0, 8)", x -> x.entry(0, 8)));
        calls.add(new Named("slope(1, 1)", x -> x.slope(1, 1)));
        calls.add(new Named("bar(1, 3)", x -> x.bar(1, 3)));
        calls.add(new Named("second(1, 0, 1)", x -> x.second(1, 0, 1)));
        calls.add(new Named("turned(1, 0, 3, MIN, 5, MAX)", x -> x.turned(1, 0, 3, MIN, 5, MAX)));
        calls.add(new Named("determinant(2)", x -> x.determinant(2)));
        calls.add(new Named("rank()", x -> x.rank()));
        calls.add(new Named("newton(1, 0, 20)", x -> x.newton(1, 0, 20)));
        calls.add(new Named("newton(2, 0, 20): -2", x -> x.newton(2, 0, 20)));
        calls.add(new Named("change(1, 1, 5)", x -> x.change(1, 1, 5)));
        calls.add(new Named("change(3, 0, -1e9)", x -> x.change(3, 0, -BILLION)));
        calls.add(new Named("degree(1, 0)", x -> x.degree(1, 0)));
        calls.add(new Named("bends(0)", x -> x.bends(0)));
        calls.add(new Named("bends(1): -2", x -> x.bends(1)));
        calls.add(new Named("hangs(1, 0, 1)", x -> x.hangs(1, 0, 1)));
        calls.add(new Named("hangs(1, 99, 0)", x -> x.hangs(1, 99, 0)));
        calls.add(new Named("back(1, 1)", x -> x.back(1, 1)));
        calls.add(new Named("cost(0, 1)", x -> x.cost(0, 1)));
        calls.add(new Named("cost(1, 1)", x -> x.cost(1, 1)));
        calls.add(new Named("few(400, 20)", x -> x.few(400, 20)));
        calls.add(new Named("split(400, 20)", x -> x.split(400, 20)));
        calls.add(new Named("states(400, 1)", x -> x.states(400, 1)));
        calls.add(new Named("action(60, 20, 100, 2)", x -> x.action(60, 20, 100, 2)));
        calls.add(new Named("action(60, 3, MAX, 2)", x -> x.action(60, 3, MAX, 2)));
        calls.add(new Named("actions(60, 3, 1)", x -> x.actions(60, 3, 1)));
        calls.add(new Named("fraction(22361, 0)", x -> x.fraction(22361, 0)));
        calls.add(new Named("count(6)", x -> x.count(6)));
        return calls;
    }

    private static List<Named> refused() {
        List<Named> calls = new ArrayList<>();
        for (int n : new int[] {MIN, -1, 41, 900, MAX}) {
            calls.add(new Named("text(" + n + ")", x -> x.count(6) == 40 || n < 0 || n > 900 ? x.text(n) : -2));
        }
        for (int i : new int[] {MIN, -1, 2, 4, MAX}) {
            calls.add(new Named("set(" + i + ", 1, 1)", x -> x.set(i, 1, 1)));
        }
        for (int b : new int[] {MIN, -1, 0, BILLION + 1, 1000000007, MAX}) {
            calls.add(new Named("set(0, 1, " + b + ")", x -> x.set(0, 1, b)));
        }
        for (int a : new int[] {MIN, -BILLION - 1, BILLION + 1, MAX}) {
            calls.add(new Named("set(1, " + a + ", 1)", x -> x.set(1, a, 1)));
        }
        for (int n : new int[] {MIN, -1, 99, MAX}) {
            calls.add(new Named("with " + n, x -> x.fault(n) + Check.code(x, n, 0) + Check.code(x, 0, n) + x.row(n, 0)
                    + x.row(0, n) + x.variable(n, 0) + x.variable(0, n) + x.cell(n, 0) + x.cell(0, n) + x.out(n, 0)
                    + x.out(0, n) + x.run(n) + x.path(n) + x.entry(n, 0) + x.entry(0, n) + x.slope(n, 0) + x.slope(0, n)
                    + x.bar(n, 0) + x.bar(0, n)));
            calls.add(new Named("and with " + n, x -> x.second(n, 0, 0) + x.second(0, n, 0) + x.second(0, 0, n)
                    + x.turned(n, 0, 1, 1, 1, 1) + x.turned(0, n, 1, 1, 1, 1) + x.determinant(n) + x.newton(n, 0, 1)
                    + x.newton(0, n, 1) + x.newton(0, 0, n) + x.change(n, 0, 1) + x.change(0, n, 1) + x.degree(n, 0)
                    + x.degree(0, n) + x.bends(n) + x.hangs(n, 0, 0) + x.hangs(0, n, 1) + x.hangs(0, 0, n) + x.back(n, 0)
                    + x.back(0, n) + x.cost(n, 0) + x.cost(0, n) + x.cost(1, n) + x.count(n)));
            calls.add(new Named("backward with " + n, x -> x.few(n, 0) + x.few(1, n) + x.split(n, 1) + x.split(2, n)
                    + x.states(n, 0) + x.states(1, n) + x.action(n, 0, 0, 0) + x.action(1, n, 0, 0) + x.action(1, 0, n, 0)
                    + x.action(1, 0, 0, n) + x.actions(n, 0, 0) + x.actions(1, n, 0) + x.actions(1, 0, n) + x.fraction(n, 0)
                    + x.fraction(1, n)));
        }
        calls.add(new Named("change by too much", x -> x.change(0, 0, BILLION + 1) + x.change(0, 0, -BILLION - 1)));
        return calls;
    }

    /** "An object is used for at most 512 calls": the last one of them answers as the first. */
    private static void lastsForLife(Named n) {
        CHECK.at("512 calls of " + n.name);
        SlopeCompiler x = Check.of("in p;in q;row a 3;alias b a 1;n=2;loop i 10;loop j 20;n=n*p+1;end;end;if p<99;end;out n;out q;");
        x.set(0, 3, 1);
        int first = n.call.on(x);
        // five feeds, text, set and the first one are eight
        for (int used = 9; used <= LIFE; used++) {
            CHECK.due("call " + used, n.call.on(x), first);
        }
    }

    private static void makesNoObjects(Named n) {
        CHECK.at("512 calls of " + n.name);
        var threads = (com.sun.management.ThreadMXBean) java.lang.management.ManagementFactory.getThreadMXBean();
        SlopeCompiler x = prepared();
        n.call.on(x);
        long before = threads.getCurrentThreadAllocatedBytes();
        for (int used = 0; used < LIFE; used++) {
            n.call.on(x);
        }
        long made = threads.getCurrentThreadAllocatedBytes() - before;
        CHECK.due("bytes of objects made: " + made, made < LIFE * 4 ? 1 : 0, 1);
    }

    private static void textsForLife() {
        CHECK.at("feed and text for 512 calls");
        SlopeCompiler x = new SlopeCompiler();
        for (int turn = 0; turn < LIFE / 4; turn++) {
            CHECK.due("feed", Check.feed(x, Check.bytesOf("in x;out x+" + turn + ";")), 20);
            CHECK.due("text(20)", x.text(20), 2);
            CHECK.due("set", x.set(0, turn, 1), 0);
            CHECK.due("out(0, 0)", x.out(0, 0), 2 * turn);
        }
        x = new SlopeCompiler();
        for (int n = 1; n <= LIFE; n++) {
            CHECK.due("feed", x.feed(n, n, n, n, n), n <= 45 ? 20 * n : -1);
        }
        x = new SlopeCompiler();
        for (int n = 1; n <= LIFE; n++) {
            CHECK.due("text(0)", x.text(0), 0);
        }
    }

    private static void setsForLife() {
        CHECK.at("set for 512 calls");
        SlopeCompiler x = Check.of("in x;y=1;loop i 20;loop j 20;y=y/x;end;end;out y;");
        for (int n = 3; n < LIFE; n++) {
            CHECK.due("set", x.set(0, n % 3 - 1, 1), n == 3 ? 0 : Check.by((n - 1) % 3 - 1, 1));
        }
        CHECK.due("run(0)", x.run(0), (LIFE - 1) % 3 == 1 ? 1 : 0);
    }

    /** What later calls answer is free, but LANGUAGE.md lets none of them throw. */
    private static void noCallThrowsBehindIt(List<Named> asked, List<Named> refused) {
        CHECK.at("behind the 512th call");
        SlopeCompiler x = prepared();
        int done = 0;
        for (int turn = 0; turn < 20; turn++) {
            for (Named n : asked) {
                n.call.on(x);
                done++;
            }
            for (Named n : refused) {
                n.call.on(x);
                done++;
            }
        }
        CHECK.due("calls", done > LIFE ? 1 : 0, 1);
    }
}
