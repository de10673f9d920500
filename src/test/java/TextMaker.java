import java.util.ArrayList;
import java.util.List;
import java.util.Random;

/** Makes texts by chance, from a seed: programs that hold, and ones with a few bytes altered. */
final class TextMaker {
    private static final String[] WORDS = {"x", "y", "z", "ab", "u", "v", "w", "k", "lp", "abcd", "on", "ro", "i", "e"};
    private static final String[] ODD_NUMBERS = {"0", "1", "7", "8", "9", "20", "21", "9999", "10000", "0009", "99999999999"};
    private static final String[] ODD_LINES = {"end;", "else;", "loop i 3;", "if 1<2;", "in q;", "row q 2;", "alias q x 0;",
        "in x;", "in y;", "row x 3;", "row y 8;", "alias z x 1;", "q=1;", "p=p;", "loop p 1;end;", "if 1=1;else;end;",
        "loop i 1;loop i 1;", "out (((((((1)))))));", "out ((((((((2))))))));", "out (((((((((3)))))))));", "abcde=1;"};
    private static final String ODD = ";;[]()=<+-*/ \n019azin{\t@" + (char) 200;

    private final Random random;
    private final List<String> variables = new ArrayList<>();
    private final List<String> rows = new ArrayList<>();
    private final List<Integer> sizes = new ArrayList<>();
    private final StringBuilder text = new StringBuilder();

    TextMaker(long seed) {
        random = new Random(seed);
    }

    private int upTo(int n) {
        return random.nextInt(n);
    }

    private String blanks() {
        return upTo(4) == 0 ? upTo(3) == 0 ? "\n" : " " : "";
    }

    private void put(String token) {
        text.append(token).append(blanks());
    }

    private void word(String word) {
        text.append(word).append(upTo(5) == 0 ? "\n" : " ").append(blanks());
    }

    private String free() {
        for (int t = 0; t < 50; t++) {
            String w = WORDS[upTo(WORDS.length)];
            if (!variables.contains(w) && !rows.contains(w)) {
                return w;
            }
        }
        return null;
    }

    /** A text; wild ones may stop early, leave rows, divide by 0. */
    String make(boolean wild, int lines) {
        int inputs = upTo(5);
        int rowCount = upTo(4);
        while (inputs + rowCount > 0) {
            if (rowCount == 0 || inputs > 0 && upTo(2) == 0) {
                String w = free();
                inputs--;
                word("in");
                put(w);
                put(";");
                variables.add(w);
            } else {
                rowCount--;
                declareRow();
            }
        }
        if (wild && upTo(3) == 0) {
            heavyLoops(lines);
        } else {
            body(lines, 0, wild);
        }
        if (upTo(3) > 0) {
            for (int k = upTo(5); k >= 0; k--) {
                word("out");
                expression(0, wild);
                put(";");
            }
        }
        return text.toString();
    }

    /** Loops that take most of what a run may do, so that the texts behind them meet its ends. */
    private void heavyLoops(int lines) {
        for (int l = 0; l < 2; l++) {
            word("loop");
            word(target());
            put(String.valueOf(14 + upTo(7)));
            put(";");
        }
        for (int l = upTo(5); l >= 0; l--) {
            put(target());
            put("=");
            put(upTo(2) == 0 ? variables.get(upTo(variables.size())) : String.valueOf(upTo(9)));
            put(";");
        }
        put("end;end;");
        body(lines, 0, true);
    }

    private void declareRow() {
        String w = free();
        if (!rows.isEmpty() && upTo(2) == 0) {
            int of = upTo(rows.size());
            int from = upTo(sizes.get(of));
            word("alias");
            word(w);
            word(rows.get(of));
            put(String.valueOf(from));
            sizes.add(sizes.get(of) - from);
        } else {
            int n = 1 + upTo(8);
            word("row");
            word(w);
            put(String.valueOf(n));
            sizes.add(n);
        }
        rows.add(w);
        put(";");
    }

    private void body(int lines, int depth, boolean wild) {
        for (int l = 0; l < lines && text.length() < 700; l++) {
            int pick = upTo(10);
            if (pick < 2 && depth < 4) {
                String v = target();
                word("loop");
                word(v);
                put(String.valueOf(1 + upTo(wild ? 20 : 4)));
                put(";");
                body(1 + upTo(3), depth + 1, wild);
                put("end");
                put(";");
            } else if (pick < 4 && depth < 4) {
                word("if");
                expression(1, wild);
                put(upTo(2) == 0 ? "<" : "=");
                expression(1, wild);
                put(";");
                body(upTo(3), depth + 1, wild);
                if (upTo(2) == 0) {
                    put("else");
                    put(";");
                    body(upTo(3), depth + 1, wild);
                }
                put("end");
                put(";");
            } else if (pick < 6 && !rows.isEmpty()) {
                int r = upTo(rows.size());
                put(rows.get(r));
                put("[");
                index(r, 1, wild);
                put("]");
                put("=");
                expression(0, wild);
                put(";");
            } else if (pick < 7) {
                word("out");
                expression(0, wild);
                put(";");
            } else {
                put(target());
                put("=");
                expression(0, wild);
                put(";");
            }
        }
    }

    private String target() {
        if (variables.size() < 8 && upTo(3) == 0 || variables.isEmpty()) {
            String w = free();
            if (w != null) {
                variables.add(w);
                return w;
            }
        }
        return variables.get(upTo(variables.size()));
    }

    private void index(int r, int depth, boolean wild) {
        if (wild && upTo(4) == 0) {
            expression(depth, true);
        } else {
            put(String.valueOf(upTo(sizes.get(r))));
        }
    }

    private void expression(int depth, boolean wild) {
        factor(depth, wild);
        for (int t = upTo(4); t > 0; t--) {
            put(String.valueOf("++-*****-/".charAt(upTo(wild ? 10 : 9))));
            factor(depth, wild);
        }
    }

    private void factor(int depth, boolean wild) {
        int pick = upTo(10);
        if (pick < 5 && !variables.isEmpty()) {
            put(variables.get(upTo(variables.size())));
        } else if (pick < 7 && !rows.isEmpty() && depth < 6) {
            int r = upTo(rows.size());
            put(rows.get(r));
            put("[");
            index(r, depth + 1, wild);
            put("]");
        } else if (pick < 8 && depth < 6) {
            put("(");
            expression(depth + 1, wild);
            put(")");
        } else {
            put(String.valueOf(upTo(20) == 0 ? upTo(10000) : upTo(6)));
        }
    }

    /** The text with one to three small changes, of bytes or of tokens. */
    String alter(String whole) {
        StringBuilder s = new StringBuilder(whole);
        boolean byTokens = upTo(2) == 0;
        for (int t = 1 + upTo(3); t > 0 && s.length() > 1; t--) {
            if (byTokens) {
                alterToken(s);
            } else {
                alterBytes(s);
            }
        }
        return s.toString();
    }

    private void alterBytes(StringBuilder s) {
        int at = upTo(s.length());
        int pick = upTo(6);
        if (pick == 0) {
            s.deleteCharAt(at);
        } else if (pick == 1) {
            s.insert(at, ODD.charAt(upTo(ODD.length())));
        } else if (pick == 2) {
            s.setCharAt(at, ODD.charAt(upTo(ODD.length())));
        } else if (pick == 3) {
            s.setLength(at);
        } else if (pick == 4) {
            s.insert(at, s.substring(at, Math.min(s.length(), at + 1 + upTo(12))));
        } else {
            s.delete(at, Math.min(s.length(), at + 1 + upTo(12)));
        }
    }

    /** Puts another number for a number, another word for a word, a LINE ahead of a LINE. */
    private void alterToken(StringBuilder s) {
        int at = upTo(s.length());
        char c = s.charAt(at);
        if (Character.isDigit(c)) {
            s.replace(at, at + 1, ODD_NUMBERS[upTo(ODD_NUMBERS.length)]);
        } else if (c >= 'a' && c <= 'z' && upTo(3) > 0) {
            int from = at;
            while (from > 0 && s.charAt(from - 1) >= 'a' && s.charAt(from - 1) <= 'z') {
                from--;
            }
            while (at < s.length() && s.charAt(at) >= 'a' && s.charAt(at) <= 'z') {
                at++;
            }
            s.replace(from, at, WORDS[upTo(WORDS.length)]);
        } else if (upTo(4) == 0) {
            s.insert(0, upTo(2) == 0 ? "in q;in r;in s;in t;" : "row q 2;row r 1;alias s q 1;row t 8;");
        } else {
            int line = upTo(3) == 0 ? 0 : s.lastIndexOf(";", at) + 1;
            s.insert(line, ODD_LINES[upTo(ODD_LINES.length)]);
        }
    }
}
