/** Texts that hold and texts with a FAULT, for the tests of Terms 1. */
final class Texts {
    private static final String KEPT = "in p;row h 3;alias g h 1;h[1]=p*p;if p=5;out g[0];end;";

    private final Check check;

    Texts(Check check) {
        this.check = check;
    }

    /** A text has ^ ahead of the place of its FAULT (it is taken out). */
    void fault(String marked, int kind) {
        int place = marked.indexOf('^');
        faultAt(marked.substring(0, place) + marked.substring(place + 1), kind, place);
    }

    void faultAt(String text, int kind, int place) {
        check.at(text);
        SlopeCompiler x = Check.of(KEPT);
        x.set(0, 5, 1);
        int[] before = Snapshot.ofProgram(x);
        check.due("text", Check.text(x, text), -1);
        check.due("fault(0)", x.fault(0), kind);
        check.due("fault(1)", x.fault(1), place);
        check.due("bytes are gone: count(6)", x.count(6), 0);
        check.due("all else stays", Snapshot.firstOther(before, Snapshot.ofProgram(x)), -1);
    }

    /** A text that holds; answers the object that has it. */
    SlopeCompiler fine(String text, int lines) {
        check.at(text);
        SlopeCompiler x = new SlopeCompiler();
        Check.text(x, "in ;");
        check.due("text", Check.text(x, text), lines);
        check.due("fault(0)", x.fault(0), 0);
        check.due("fault(1)", x.fault(1), -1);
        check.due("count(0)", x.count(0), lines);
        check.due("count(6)", x.count(6), 0);
        return x;
    }
}
