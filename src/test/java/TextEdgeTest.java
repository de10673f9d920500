/** The bounds of a TEXT, Terms 1 sentence by sentence: the last that is still taken, the first that is not. */
public final class TextEdgeTest {
    private static final Check CHECK = new Check();
    private static final Texts TEXTS = new Texts(CHECK);
    private static final String[] LANGUAGE = {"in", "row", "loop", "if", "else", "end", "out", "alias"};
    /** Every place where a W stands, but for the beginning of a LINE. */
    private static final String[] PLACES_OF_W = {"in @;", "row @ 1;", "row a 1;alias @ a 0;", "row a 1;alias b @ 0;",
        "loop @ 1;end;", "out @;", "x=@;", "x=1;out x+@;", "row a 1;out a[@];", "row a 1;a[@]=1;", "row a 1;a[0]=@;",
        "if @<1;end;", "if 1=@;end;", "out (@);"};

    private TextEdgeTest() {
    }

    public static void main(String[] args) {
        lengthsOfWords();
        wordsOfTheLanguage();
        everyByte();
        numbers();
        numbersOfRowsAndLoops();
        numbersOfAlias();
        blanks();
        aheadOfAllOthers();
        inputs();
        rows();
        cells();
        variables();
        variablesInAnE();
        deep();
        brackets();
        bracketsThatAreClosed();
        theLength();
        placesOfFaults();
        theFirstAlongTheText();
        theLeastOfOnePlace();
        lines();
        oneBehindAnother();
        CHECK.end("TextEdgeTest");
    }

    private static void fault(String marked, int kind) {
        TEXTS.fault(marked, kind);
    }

    private static SlopeCompiler fine(String text, int lines) {
        return TEXTS.fine(text, lines);
    }

    /** "of 1 .. 4 letters", "a word that is too long, too". */
    private static void lengthsOfWords() {
        for (String w : new String[] {"a", "z", "az", "zzz", "aaaa", "zzzz"}) {
            fine("in " + w + ";out " + w + ";", 2);
            fine("row " + w + " 1;alias q " + w + " 0;" + w + "[0]=" + w + "[0];", 3);
            fine("row q 1;alias " + w + " q 0;", 2);
            fine(w + "=1;out " + w + ";", 2);
            fine("loop " + w + " 1;end;", 2);
        }
        for (String w : new String[] {"aaaaa", "zzzzz", "loops", "aliaa", "aalia", "aaaaaa", "aliass", "a".repeat(300)}) {
            for (String place : PLACES_OF_W) {
                fault(place.replace("@", "^" + w), 1);
            }
            fault("^" + w + "=1;", 1);
            fault("^" + w + " x 1;", 1);
        }
        // a longer word is another one than its first or last four letters
        fault("aaaa=1;out ^aaaaa;", 1);
        fault("abcd=1;out ^xabcd;", 1);
        fault("row aaaa 1;^aaaaa[0]=1;", 1);
        fault("abcd=1;out ^" + "efgh".repeat(8) + "abcd;", 1);
        SlopeCompiler x = fine("in a;in aa;in aaa;in aaaa;aaab=4;baaa=5;ab=6;ba=7;out aaab;out ba;", 10);
        CHECK.due("words of other letters are others", x.count(2), 8);
        CHECK.due("out(0, 0)", x.out(0, 0), 4);
        CHECK.due("out(1, 0)", x.out(1, 0), 7);
    }

    /** "none of the language's"; "alias is none of W's either". */
    private static void wordsOfTheLanguage() {
        for (String w : LANGUAGE) {
            for (String place : PLACES_OF_W) {
                fault(place.replace("@", "^" + w), 1);
            }
        }
        for (String w : new String[] {"i", "n", "ni", "inn", "iin", "ro", "ow", "rows", "rrow", "wor", "loo", "oop", "pool",
            "f", "fi", "iff", "ifs", "els", "lse", "esle", "en", "nd", "ends", "eend", "ou", "ut", "outs", "oout", "tuo",
            "al", "ali", "alia", "lias", "test", "jump"}) {
            fine(w + "=1;out " + w + ";", 2);
            fine("in " + w + ";loop " + w + " 2;end;", 3);
        }
        fault("^inrow x;", 1);
        fault("inx^;", 1);
        fault("outx^;", 1);
        fault("ro ^w a 1;", 1);
        fault("ali ^as b a 1;", 1);
    }

    private static boolean isLetter(int b) {
        return b >= 97 && b <= 122;
    }

    private static boolean isDigit(int b) {
        return b >= 48 && b <= 57;
    }

    /** "a TOKEN that is none": each byte at a LINE's beginning, where an operand, where an operator stands. */
    private static void everyByte() {
        for (int b = 0; b < 256; b++) {
            boolean blank = b == 10 || b == 32;
            if (blank) {
                fine((char) b + "out 1;", 1);
                TEXTS.faultAt("out " + (char) b + ";", 1, 5);
                TEXTS.faultAt("out 1" + (char) b + "2;", 1, 6);
                continue;
            }
            TEXTS.faultAt((char) b + "out 1;", 1, isLetter(b) ? 5 : 0);
            if (isDigit(b)) {
                fine("out " + (char) b + ";", 1);
                fine("out 1" + (char) b + "2;", 1);
                continue;
            }
            TEXTS.faultAt("out " + (char) b + ";", 1, b == '(' ? 5 : 4);
            if ("+-*/".indexOf(b) >= 0) {
                fine("out 1" + (char) b + "2;", 1);
            } else {
                TEXTS.faultAt("out 1" + (char) b + "2;", 1, b == ';' ? 6 : 5);
            }
        }
    }

    /** "N: digits, 0 .. 9999"; "a number beyond what is said". */
    private static void numbers() {
        for (String place : new String[] {"out @;", "x=@;", "x=1+@;", "x=1*@;", "out (@);", "row a 1;out a[@];",
            "row a 1;a[@]=0;", "row a 1;a[0]=@;", "if @<1;end;", "if 1=@;end;"}) {
            int lines = place.length() - place.replace(";", "").length();
            for (String good : new String[] {"0", "9", "10", "999", "1000", "9998", "9999", "0000", "09999", "000009999"}) {
                fine(place.replace("@", good), lines);
            }
            for (String bad : new String[] {"10000", "10001", "19999", "99990", "99999", "010000", "65536", "2147483647",
                "2147483648", "4294967295", "4294967296", "4294967297", "18446744073709551617", "9".repeat(200)}) {
                fault(place.replace("@", "^" + bad), 2);
            }
        }
        SlopeCompiler x = fine("out 0;out 9999;out 0042;", 3);
        CHECK.due("out(0, 0)", x.out(0, 0), 0);
        CHECK.due("out(1, 0)", x.out(1, 0), 9999);
        CHECK.due("out(2, 0)", x.out(2, 0), 42);
    }

    /** "row: a ROW of N 1 .. 8 CELLS", "loop: N 1 .. 20". */
    private static void numbersOfRowsAndLoops() {
        for (int n = 0; n <= 25; n++) {
            if (n >= 1 && n <= 8) {
                SlopeCompiler x = fine("row a " + n + ";", 1);
                CHECK.due("row(0, 0)", x.row(0, 0), n);
                CHECK.due("count(4)", x.count(4), n);
            } else {
                fault("row a ^" + n + ";", 2);
            }
            if (n >= 1 && n <= 20) {
                SlopeCompiler x = fine("loop i " + n + ";end;", 2);
                CHECK.due("code(0, 2)", Check.code(x, 0, 2), n);
                CHECK.due("run(2)", x.run(2), 1 + n);
            } else {
                fault("loop i ^" + n + ";end;", 2);
            }
        }
        for (String bad : new String[] {"9999", "10000", "00", "0000021", "65537", "4294967297", "18446744073709551617"}) {
            fault("row a ^" + bad + ";", 2);
            fault("loop i ^" + bad + ";end;", 2);
            fault("row a 8;alias b a ^" + (bad.equals("00") ? "8" : bad) + ";", 2);
        }
        fine("row a 008;loop i 0020;end;", 3);
    }

    /** "from N on (0 .. its CELLS less 1)", of a row and of an alias. */
    private static void numbersOfAlias() {
        for (int cells = 1; cells <= 8; cells++) {
            for (int n = 0; n < cells; n++) {
                String text = "row z 3;row a " + cells + ";alias b a " + n + ";";
                SlopeCompiler x = fine(text, 3);
                CHECK.due("row(2, 0)", x.row(2, 0), cells - n);
                CHECK.due("row(2, 1)", x.row(2, 1), 3 + n);
                CHECK.due("row(2, 2)", x.row(2, 2), 2);
                CHECK.due("count(4)", x.count(4), 3 + cells);
                x = fine(text + "alias c b " + (cells - n - 1) + ";", 4);
                CHECK.due("row(3, 0)", x.row(3, 0), 1);
                CHECK.due("row(3, 1)", x.row(3, 1), 2 + cells);
                CHECK.due("row(3, 2)", x.row(3, 2), 3);
                CHECK.due("row(0, 2)", x.row(0, 2), 1);
                fault(text + "alias c b ^" + (cells - n) + ";", 2);
            }
            fault("row a " + cells + ";alias b a ^" + cells + ";", 2);
        }
    }

    /** "Blanks 10, 32": between any two TOKENS, none within one. */
    private static void blanks() {
        String[] tokens = {"in", "x", ";", "row", "a", "3", ";", "alias", "b", "a", "1", ";", "b", "[", "0", "]", "=", "(", "x",
            "+", "9", ")", "*", "2", ";", "loop", "i", "2", ";", "if", "a", "[", "i", "]", "<", "x", ";", "else", ";", "end", ";",
            "end", ";", "out", "a", "[", "1", "]", ";"};
        for (String blank : new String[] {" ", "\n", " \n", "\n\n  "}) {
            SlopeCompiler x = fine(blank + String.join(blank, tokens) + blank, 10);
            CHECK.due("out(0, 0)", x.out(0, 0), 18);
            CHECK.due("count(5)", x.count(5), 17);
        }
        SlopeCompiler x = fine("in x;row a3;alias b a1;b[0]=(x+9)*2;loop i2;if a[i]<x;else;end;end;out a[1];", 10);
        CHECK.due("count(5)", x.count(5), 17);
        fault("ou ^t 1;", 1);
        fault("out 1 ^2;", 1);
        fault("out 1\n^2;", 1);
        fault("loop i 2 ^0;end;", 1);
        for (int b : new int[] {0, 9, 11, 12, 13, 31, 33, 42 + 128, 10 + 128, 32 + 128, 255}) {
            fault("out 1;^" + (char) b, 1);
            fault("^" + (char) b + "out 1;", 1);
            fault("in x^" + (char) b + ";", 1);
        }
    }

    /** "in, row, alias stand ahead of all others"; "a LINE too late". */
    private static void aheadOfAllOthers() {
        fine("row a 1;in x;alias b a 0;in y;row c 1;alias d c 0;in z;", 7);
        String[] others = {"x=1;", "a[0]=1;", "loop i 1;", "loop i 1;end;", "if 1=1;", "if 1=1;else;", "if 1=1;end;", "out 1;",
            "x=1;x=1;x=1;"};
        for (String other : others) {
            fault("row a 1;" + other + "^in y;", 1);
            fault("row a 1;" + other + "^row y 1;", 1);
            fault("row a 1;" + other + "^alias y a 0;", 1);
        }
    }

    /** "in: an INPUT, at most 4, numbered from 0 on; they are the first VARIABLES"; "a fifth in". */
    private static void inputs() {
        String text = "";
        for (int n = 0; n <= 4; n++) {
            SlopeCompiler x = fine(text + "x=1;", n + 1);
            CHECK.due("count(1)", x.count(1), n);
            CHECK.due("count(2)", x.count(2), n + 1);
            for (int i = 0; i < n; i++) {
                CHECK.due("variable(" + i + ", 1)", x.variable(i, 1), 1000 + i);
            }
            CHECK.due("variable(n, 1)", x.variable(n, 1), -2);
            text += "in " + (char) ('a' + n) + ";";
        }
        fault("in a;in b;in c;in d;^in e;", 2);
        fault("in a;in b;row z 1;in c;alias y z 0;in d;row w 8;^in e;", 2);
        fault("in a;in b;in c;in d;^in", 2);
        fault("in a;in b;in c;in d;^in a;", 2);
    }

    /** "ROWS at most 6 with those of alias"; "a seventh ROW (at row, alias)". */
    private static void rows() {
        for (int mix = 0; mix < 32; mix++) {
            String text = "row r 2;";
            for (int n = 1; n < 6; n++) {
                String name = " r" + (char) ('a' + n);
                text += (mix >> n - 1 & 1) == 0 ? "row" + name + " 1;" : "alias" + name + " r 1;";
                SlopeCompiler x = fine(text, n + 1);
                CHECK.due("count(3)", x.count(3), n + 1);
            }
            SlopeCompiler x = fine(text + "in x;", 7);
            CHECK.due("count(3)", x.count(3), 6);
            CHECK.due("count(4)", x.count(4), 2 + 5 - Integer.bitCount(mix));
            CHECK.due("row(5, 0)", x.row(5, 0), 1);
            CHECK.due("row(6, 0)", x.row(6, 0), -1);
            fault(text + "^row q 1;", 2);
            fault(text + "^alias q r 0;", 2);
            fault(text + "^row", 2);
            fault(text + "in x;^alias r r 0;", 2);
        }
    }

    /** "CELLS have numbers, those of the first row 0 on, and so on": empty and full. */
    private static void cells() {
        SlopeCompiler x = fine("row a 8;row b 8;row c 8;row d 8;row e 8;row f 8;f[7]=7;a[0]=1;", 8);
        CHECK.due("count(4)", x.count(4), 48);
        for (int r = 0; r < 6; r++) {
            CHECK.due("row(r, 1)", x.row(r, 1), 8 * r);
            CHECK.due("row(r, 2)", x.row(r, 2), 1);
        }
        CHECK.due("cell(0, 0)", x.cell(0, 0), 1);
        CHECK.due("cell(47, 0)", x.cell(47, 0), 7);
        CHECK.due("cell(46, 0)", x.cell(46, 0), 0);
        CHECK.due("cell(48, 0)", x.cell(48, 0), -10);
        x = fine("in x;", 1);
        CHECK.due("no ROWS: count(4)", x.count(4), 0);
        CHECK.due("no ROWS: cell(0, 0)", x.cell(0, 0), -10);
        CHECK.due("no ROWS: row(0, 0)", x.row(0, 0), -1);
    }

    /** "VARIABLES at most 8, numbered as they first come"; "a ninth VARIABLE (at its W)". */
    private static void variables() {
        for (int inputs = 0; inputs <= 4; inputs++) {
            for (int mix = 0; mix < 16; mix++) {
                String text = "row r 1;";
                int lines = 1;
                for (int n = 0; n < 8; n++) {
                    String name = "v" + (char) ('a' + n);
                    boolean loop = n >= inputs && (mix >> n % 4 & 1) == 1;
                    text += n < inputs ? "in " + name + ";" : loop ? "loop " + name + " 1;end;" : name + "=" + n + ";";
                    lines += loop ? 2 : 1;
                }
                SlopeCompiler x = fine(text + "va=1;loop vh 1;end;r[0]=vh;out vd;", lines + 5);
                CHECK.due("count(2)", x.count(2), 8);
                CHECK.due("count(1)", x.count(1), inputs);
                fault(text + "^vi=1;", 2);
                fault(text + "^v=vi;", 2);
                fault(text + "loop ^vi 1;end;", 2);
                fault(text + "out ^vi;", 1);
                fault(text + "^vi=va;va=1;", 2);
            }
        }
        SlopeCompiler x = fine("b=1;loop a 2;c=2;end;b=3;d=4;", 6);
        int[] due = {3, 1, 2, 4};
        for (int v = 0; v < 4; v++) {
            CHECK.due("variable(" + v + ", 0)", x.variable(v, 0), due[v]);
        }
        CHECK.due("count(2)", x.count(2), 4);
        x = fine("", 0);
        CHECK.due("no VARIABLES", x.count(2), 0);
        CHECK.due("no VARIABLES", x.variable(0, 0), -10);
    }

    /** "in an E only such as came ahead in the text". */
    private static void variablesInAnE() {
        fine("x=x;", 1);
        fine("loop i 2;out i;end;out i;", 4);
        fine("if 1=2;x=1;end;out x;", 4);
        fine("in x;out x;", 2);
        fine("row r 1;r[r[0]]=r[0];", 2);
        fault("out ^x;x=1;", 1);
        fault("y=^x;x=1;", 1);
        fault("row r 1;r[^x]=1;x=1;", 1);
        fault("row r 1;r[0]=^x;x=1;", 1);
        fault("if ^x=1;x=1;end;", 1);
        fault("if 1<^x;x=1;end;", 1);
        fault("out ^i;loop i 2;end;", 1);
        fault("loop i 2;out ^x;x=i;end;", 1);
    }

    private static String blocks(int mix, int depth) {
        StringBuilder text = new StringBuilder();
        for (int n = 0; n < depth; n++) {
            int kind = mix / (int) Math.pow(3, n) % 3;
            text.append(kind == 0 ? "loop i 1;" : kind == 1 ? "if 1=1;" : "if 1=1;else;");
        }
        return text.toString();
    }

    private static int linesOf(String text) {
        return text.length() - text.replace(";", "").length();
    }

    /** "4 deep at most"; "a fifth loop, if within others (at the word)"; "else, end without what they belong to". */
    private static void deep() {
        for (int mix = 0; mix < 81; mix++) {
            String open = blocks(mix, 4);
            String four = open + "end;".repeat(4);
            fine(four, linesOf(four));
            fine(four + four, 2 * linesOf(four));
            fine(open + "end;loop j 1;end;if 2<1;else;end;end;end;end;", linesOf(open) + 9);
            fault(open + "^loop j 1;", 2);
            fault(open + "^if 1=1;", 2);
            fault(open + "x=1;^loop", 2);
            fault(open + "out 2;^if", 2);
            fault(open + "end;".repeat(3) + "^", 1);
            fault(four + "^end;", 1);
            fault(four + "^else;", 1);
            if (mix / 27 == 1) {
                fine(open + "else;" + "end;".repeat(4), linesOf(four) + 1);
            } else {
                fault(open + "^else;", 1);
            }
        }
        for (int depth = 1; depth < 4; depth++) {
            String open = blocks(0, depth);
            fine(open + "end;".repeat(depth), 2 * depth);
            fault(open + "end;".repeat(depth - 1) + "^", 1);
            fault(open + "end;".repeat(depth) + "^end;", 1);
        }
        fine("loop i 1;end;".repeat(60), 120);
        fine("if 1=1;if 1=1;else;end;else;end;", 6);
        fault("if 1=1;else;if 1=1;end;^else;end;", 1);
        fault("if 1=1;loop i 1;^else;end;end;", 1);
    }

    /** Brackets one within another, the outermost first: bit n of the mix tells which the n-th is. */
    private static String nest(int mix, int depth, String within) {
        StringBuilder text = new StringBuilder();
        StringBuilder closing = new StringBuilder();
        for (int n = 0; n < depth; n++) {
            boolean round = (mix >> n & 1) == 0;
            text.append(round ? "(" : "a[");
            closing.insert(0, round ? ")" : "]");
        }
        return text + within + closing;
    }

    /** "'(' and '[' 8 deep at most, in one E (the '[' to the left of = is in none)"; "a ninth bracket". */
    private static void brackets() {
        String[] places = {"out @;", "x=@;", "a[@]=0;", "a[0]=@;", "if @<1;end;", "if 1=@;end;", "out 1+2*@;"};
        for (int mix = 0; mix < 256; mix++) {
            for (String place : mix % 16 == 5 || mix == 0 || mix == 255 ? places : new String[] {places[mix % 7]}) {
                fine("row a 2;" + place.replace("@", nest(mix, 8, "0")), linesOf(place) + 1);
                fault("row a 2;" + place.replace("@", nest(mix, 8, "^(0)")), 2);
                fault("row a 2;" + place.replace("@", nest(mix, 8, "a^[0]")), 2);
                fault("row a 2;" + place.replace("@", nest(mix, 8, "1-^(")), 2);
            }
        }
        // both sides of = and of a C are E's of their own
        String eight = nest(0, 8, "0");
        fine("row a 1;a[" + eight + "]=" + eight + ";", 2);
        fine("if " + eight + "<" + eight + ";end;", 2);
        fault("row a 1;a[" + eight + "]=" + nest(0, 8, "^(0)") + ";", 2);
        fault("if " + eight + "=" + nest(0, 8, "^(0)") + ";end;", 2);
    }

    private static void bracketsThatAreClosed() {
        String eight = nest(0, 8, "1");
        SlopeCompiler x = fine("row a 2;out " + eight + "+" + eight + "*" + eight + "-" + nest(255, 8, "0") + ";", 2);
        CHECK.due("out(0, 0)", x.out(0, 0), 2);
        fine("row a 2;out a[0]" + "+a[0]".repeat(40) + "+(1)".repeat(40) + ";", 2);
        fine("row a 2;out " + nest(0, 7, "(1)+(2)*a[0]-(3)") + ";", 2);
        fault("row a 2;out " + nest(0, 7, "(1)+(2)*a[^(0)]") + ";", 2);
        // the most that waits at once: two in each bracket, three in the innermost, one of an if
        String deepest = "1+2*(".repeat(8) + "1+2*3" + ")".repeat(8);
        x = fine("if 5<" + deepest + ";out " + deepest + ";end;", 3);
        int value = 3;
        for (int n = 0; n < 9; n++) {
            value = 1 + 2 * value;
        }
        CHECK.due("path(0)", x.path(0), 1);
        CHECK.due("out(0, 0)", x.out(0, 0), value);
        x = fine("row a 2;a[0+1*(0+1)]=" + deepest + ";out a[1];", 3);
        CHECK.due("out(0, 0)", x.out(0, 0), value);
    }

    /** "the length, if more must come": a text that is cut off anywhere but behind a LINE with nothing open. */
    private static void theLength() {
        String whole = "in x;row a 3;alias b a 1;y=(x+9)*2;b[1]=a[y-17];loop i 20;if a[0]<x;out 1;else;out y;end;end;out y/3;";
        for (int n = 0; n <= whole.length(); n++) {
            String cut = whole.substring(0, n);
            boolean open = cut.contains("loop i 20;") && !cut.contains("end;end;");
            if (!open && (n == 0 || cut.endsWith(";"))) {
                fine(cut, linesOf(cut));
                fine(cut + "  \n", linesOf(cut));
            } else {
                TEXTS.faultAt(cut, 1, n);
                TEXTS.faultAt(cut + " \n ", 1, n + 3);
            }
        }
        itIsNThatCounts(whole);
        fault(" ".repeat(895) + "out 1^", 1);
        fault(" ".repeat(889) + "loop i " + "0002^", 1);
        fault(" ".repeat(896) + "out ^", 1);
    }

    /** Not how many bytes there are: a word, a number that is cut off by n has no more letters, digits. */
    private static void itIsNThatCounts(String whole) {
        SlopeCompiler x = new SlopeCompiler();
        for (int n = 0; n <= whole.length(); n++) {
            CHECK.at("text(" + n + ") of " + whole);
            String cut = whole.substring(0, n);
            int alone = Check.text(x, cut);
            int fault = x.fault(0);
            int place = x.fault(1);
            Check.feed(x, Check.bytesOf(whole));
            CHECK.due("text", x.text(n), alone);
            CHECK.due("fault(0)", x.fault(0), fault);
            CHECK.due("fault(1)", x.fault(1), place);
            CHECK.due("the place is n", place, alone < 0 ? n : -1);
        }
        CHECK.at("a number cut off by n");
        Check.feed(x, Check.bytesOf("out 99991;out ab;end"));
        CHECK.due("text(8)", x.text(8), -1);
        CHECK.due("fault(0)", x.fault(0), 1);
        CHECK.due("fault(1)", x.fault(1), 8);
        Check.feed(x, Check.bytesOf("out 99991;out ab;end"));
        CHECK.due("text(9)", x.text(9), -1);
        CHECK.due("fault(0)", x.fault(0), 2);
        CHECK.due("fault(1)", x.fault(1), 4);
        Check.feed(x, Check.bytesOf("in abcd;out abcdefg;"));
        CHECK.due("a word cut off by n: text(16)", x.text(16), -1);
        CHECK.due("fault(1)", x.fault(1), 16);
        Check.feed(x, Check.bytesOf("in abcd;out abcdefg;"));
        CHECK.due("text(17)", x.text(17), -1);
        CHECK.due("fault(1)", x.fault(1), 12);
    }

    /** The least and the greatest place that there is. */
    private static void placesOfFaults() {
        fault("^;", 1);
        fault("^#", 1);
        String blank = " ".repeat(899);
        fault(blank + "^#", 1);
        fault(blank + "^;", 1);
        fault(blank + "x^", 1);
        fault("out 1" + " ".repeat(895) + "^", 1);
        fault("loop i 1;" + " ".repeat(891) + "^", 1);
        fine(blank + " ", 0);
        fine(" ".repeat(894) + "out 1;", 1);
        fault(" ".repeat(895) + "out ^;", 1);
        fault("out " + " ".repeat(890) + "^10000;", 2);
        fault("in x;" + " ".repeat(891) + "in ^x", 3);
    }

    /** "the first along the text": of two, whichever they are. */
    private static void theFirstAlongTheText() {
        fault("in x;in ^x;out 10000;out ?;", 3);
        fault("in x;in ^?;in x;out 10000;", 1);
        fault("row x 1;row y ^9;row x 1;out ?;", 2);
        fault("row x 1;row ^x 9;", 3);
        fault("row x 1;alias ^x y 10000;", 3);
        fault("row x 1;alias y ^z 10000;", 1);
        fault("out ^10000;out ?;", 2);
        fault("out ^?;out 10000;", 1);
        fault("out 10^#10000;", 1);
        fault("out ((((((((^(?", 2);
        fault("in x;in ^x", 3);
        fault("loop ^9 21;", 1);
        fault("loop i ^21;end;end;", 2);
    }

    /** "of one place the least". */
    private static void theLeastOfOnePlace() {
        fault("in a;in b;in c;in d;x=1;^in e;", 1);
        String six = "row a 1;row b 1;row c 1;row d 1;row e 1;row f 1;";
        fault(six + "x=1;^row g 1;", 1);
        fault(six + "x=1;^alias g a 0;", 1);
        fault("in ^10000;", 1);
        fault("row ^10000 1;", 1);
        fault("row a 1;alias ^10000 a 0;", 1);
        fault("row a 1;alias b ^10000 0;", 1);
        fault("loop ^10000 1;end;", 1);
        fault("out 1 ^10000;", 1);
        fault("out 1;^10000;", 1);
        fault("row a 1 ^10000;", 1);
        fault("x ^10000;", 1);
        fault("x=" + nest(0, 8, "1^(2)") + ";", 1);
        fault("x=" + nest(0, 8, "x^[0]") + ";", 1);
        fault("x=" + nest(0, 8, "1^[0]") + ";", 1);
        fault("row a 1;x=" + nest(255, 8, "a^(0)") + ";", 1);
        fault("row a 1;x=" + nest(0, 8, "^[0]") + ";", 1);
    }

    /** How many LINES: none, and the most that 900 bytes hold. */
    private static void lines() {
        fine("", 0);
        fine("\n", 0);
        SlopeCompiler x = fine("x=1;".repeat(225), 225);
        CHECK.due("count(5)", x.count(5), 450);
        fault("x=1;".repeat(224) + "x=1 ^", 1);
        fault("^" + ";".repeat(900), 1);
    }

    /** "all anew"; "NONE with a FAULT, all else stays": each text is the same behind any two others. */
    private static void oneBehindAnother() {
        String[] texts = {"", "in x;out x*x;", "in x;in y;in z;in w;row a 8;row b 8;row c 8;row d 8;row e 8;alias f e 1;f[6]=z;"
            + "p=1;q=2;r=3;s=4;out e[7];", "row x 1;row y 1;loop a 3;x[0]=a;end;if x[0]=2;out 5;else;out 6;end;",
            "row a 2;loop i 20;a[0]=a[0]+1;end;out 1/(a[0]-20);", "loop i 4;if i<2;out i;end;end;"};
        String[] faults = {"in x;row a 3;in x;", "row a 8;row b 8;p=1;q=2;?", "loop i 3;loop j 2;if i<j;else;",
            "in a;in b;in c;in d;in e;", "a=1;b=1;c=1;d=1;e=1;f=1;g=1;h=1;i=1;", "loop i 1;loop i 1;loop i 1;loop i 1;if 1=1;"};
        for (int first = 0; first < texts.length; first++) {
            for (int second = 0; second < texts.length; second++) {
                SlopeCompiler x = Check.of(texts[first]);
                Check.text(x, texts[second]);
                for (int f = 0; f < faults.length; f++) {
                    CHECK.at(texts[first] + " / " + texts[second] + " / " + faults[f]);
                    CHECK.due("a FAULT", Check.text(x, faults[f]), -1);
                    CHECK.due("all else stays", other(x, texts[second]), -1);
                }
                for (String third : texts) {
                    CHECK.at(texts[first] + " / " + texts[second] + " / " + third);
                    CHECK.due("text", Check.text(x, third), linesOf(third));
                    CHECK.due("all anew", other(x, third), -1);
                    x.set(0, 7, 1);
                }
            }
        }
    }

    /** Where the object answers otherwise than a new one with that text; -1: nowhere. */
    private static int other(SlopeCompiler x, String text) {
        return Snapshot.firstOther(Snapshot.ofProgram(Check.of(text)), Snapshot.ofProgram(x));
    }
}
