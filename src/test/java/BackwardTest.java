import java.util.ArrayList;
import java.util.List;

/** FEW, SPLIT and ACTIONS against the document's own recursion. Promises 27 to 31. */
public final class BackwardTest {
    private static final Check CHECK = new Check();
    private static final int[][] FEW = new int[401][21];
    private static final int[][] SPLIT = new int[401][21];

    private BackwardTest() {
    }

    public static void main(String[] args) {
        fillTables();
        SlopeCompiler x = new SlopeCompiler();
        CHECK.at("tables");
        for (int l = 1; l <= 400; l++) {
            for (int c = 0; c <= 20; c++) {
                CHECK.due("few(" + l + ", " + c + ")", x.few(l, c), FEW[l][c]);
                CHECK.due("split(" + l + ", " + c + ")", x.split(l, c), l == 1 || c == 0 ? -1 : SPLIT[l][c]);
            }
        }
        statesOf(x);
        for (int l = 1; l <= 60; l++) {
            for (int c = 0; c <= 20; c++) {
                CHECK.at("l " + l + ", c " + c);
                actionsOf(x, l, c);
            }
        }
        byHand(x);
        wrongOnes(x);
        CHECK.end("BackwardTest");
    }

    private static void fillTables() {
        for (int c = 0; c <= 20; c++) {
            for (int l = 2; l <= 400; l++) {
                if (c == 0) {
                    FEW[l][c] = l * (l - 1) / 2;
                    continue;
                }
                FEW[l][c] = Integer.MAX_VALUE;
                for (int j = 1; j < l; j++) {
                    int n = j + FEW[l - j][c - 1] + FEW[j][c];
                    if (n < FEW[l][c]) {
                        FEW[l][c] = n;
                        SPLIT[l][c] = j;
                    }
                }
            }
        }
    }

    private static void statesOf(SlopeCompiler x) {
        for (int l = 1; l <= 400; l++) {
            for (int c = 0; c <= 20; c++) {
                for (int n = FEW[l][c] - 1; n <= FEW[l][c] + 1; n++) {
                    CHECK.due("states(" + l + ", " + n + ")", x.states(l, n), least(l, n));
                }
            }
        }
    }

    private static int least(int l, int n) {
        if (n < 0) {
            return -1;
        }
        for (int c = 0; c <= 20; c++) {
            if (FEW[l][c] <= n) {
                return c;
            }
        }
        return -2;
    }

    private static void lay(List<int[]> into, int a, int b, int c) {
        if (b - a == 1) {
            into.add(new int[] {2, a, a});
        } else if (c == 0) {
            for (int e = b - 1; e >= a; e--) {
                if (e != a) {
                    into.add(new int[] {0, a, e});
                }
                into.add(new int[] {2, e, e});
            }
        } else {
            int there = a + SPLIT[b - a][c];
            into.add(new int[] {0, a, there});
            into.add(new int[] {1, there, there});
            lay(into, there, b, c - 1);
            into.add(new int[] {3, there, there});
            lay(into, a, there, c);
        }
    }

    private static void actionsOf(SlopeCompiler x, int l, int c) {
        List<int[]> due = new ArrayList<>();
        lay(due, 0, l, c);
        int gone = 0;
        int kept = 0;
        int most = 0;
        for (int n = 0; n < due.size(); n++) {
            int[] one = due.get(n);
            for (int w = 0; w < 3; w++) {
                CHECK.due("action(" + n + ", " + w + ")", x.action(l, c, n, w), one[w]);
            }
            gone += one[0] == 0 ? one[2] - one[1] : 0;
            kept += one[0] == 1 ? 1 : one[0] == 3 ? -1 : 0;
            most = Math.max(most, kept);
        }
        CHECK.due("action behind the last", x.action(l, c, due.size(), 0), -2);
        CHECK.due("actions(0)", x.actions(l, c, 0), due.size());
        CHECK.due("actions(1)", x.actions(l, c, 1), gone);
        CHECK.due("actions(1) is few", x.actions(l, c, 1), FEW[l][c]);
        CHECK.due("actions(2)", x.actions(l, c, 2), most);
    }

    private static void byHand(SlopeCompiler x) {
        CHECK.at("by hand");
        CHECK.due("few(1, 20)", x.few(1, 20), 0);
        CHECK.due("few(400, 0)", x.few(400, 0), 79800);
        CHECK.due("few(3, 2)", x.few(3, 2), 2);
        CHECK.due("split(2, 1)", x.split(2, 1), 1);
        CHECK.due("states(1, 0)", x.states(1, 0), 0);
        CHECK.due("states(400, 2147483647)", x.states(400, Integer.MAX_VALUE), 0);
        CHECK.due("states(400, 398)", x.states(400, 398), -2);
        CHECK.due("states(21, 20)", x.states(21, 20), 19);
        CHECK.due("states(22, 21)", x.states(22, 21), 20);
        CHECK.due("states(23, 22)", x.states(23, 22), -2);
        // with no states: go 0 to 1, turn 1, turn 0
        CHECK.due("action(2, 0, 0, 2)", x.action(2, 0, 0, 2), 1);
        CHECK.due("action(2, 0, 1, 0)", x.action(2, 0, 1, 0), 2);
        CHECK.due("action(2, 0, 1, 1)", x.action(2, 0, 1, 1), 1);
        CHECK.due("action(2, 0, 2, 2)", x.action(2, 0, 2, 2), 0);
        CHECK.due("action(2, 0, 3, 2)", x.action(2, 0, 3, 2), -2);
        CHECK.due("actions(1, 20, 2)", x.actions(1, 20, 2), 0);
        CHECK.due("actions(60, 0, 2)", x.actions(60, 0, 2), 0);
        CHECK.due("actions(60, 0, 0)", x.actions(60, 0, 0), 119);
    }

    private static void wrongOnes(SlopeCompiler x) {
        CHECK.at("wrong ones");
        int[] extremes = {Integer.MIN_VALUE, -1, Integer.MAX_VALUE};
        for (int n : extremes) {
            CHECK.due("few(n, 1)", x.few(n, 1), -1);
            CHECK.due("few(1, n)", x.few(1, n), -1);
            CHECK.due("split(n, 1)", x.split(n, 1), -1);
            CHECK.due("split(2, n)", x.split(2, n), -1);
            CHECK.due("states(n, 1)", x.states(n, 1), -1);
            CHECK.due("action(n, 1, 0, 0)", x.action(n, 1, 0, 0), -1);
            CHECK.due("action(1, n, 0, 0)", x.action(1, n, 0, 0), -1);
            CHECK.due("action(1, 1, 0, n)", x.action(1, 1, 0, n), -1);
            CHECK.due("action(1, 1, 9, n)", x.action(1, 1, 9, n), -1);
            CHECK.due("actions(n, 1, 0)", x.actions(n, 1, 0), -1);
            CHECK.due("actions(1, n, 0)", x.actions(1, n, 0), -1);
            CHECK.due("actions(1, 1, n)", x.actions(1, 1, n), -1);
        }
        CHECK.due("few(0, 0)", x.few(0, 0), -1);
        CHECK.due("few(401, 0)", x.few(401, 0), -1);
        CHECK.due("few(1, 21)", x.few(1, 21), -1);
        CHECK.due("split(401, 1)", x.split(401, 1), -1);
        CHECK.due("split(1, 1)", x.split(1, 1), -1);
        CHECK.due("split(2, 0)", x.split(2, 0), -1);
        CHECK.due("split(2, 21)", x.split(2, 21), -1);
        CHECK.due("states(0, 1)", x.states(0, 1), -1);
        CHECK.due("states(401, 1)", x.states(401, 1), -1);
        CHECK.due("states(1, -1)", x.states(1, -1), -1);
        CHECK.due("action(0, 0, 0, 0)", x.action(0, 0, 0, 0), -1);
        CHECK.due("action(61, 0, 0, 0)", x.action(61, 0, 0, 0), -1);
        CHECK.due("action(1, 21, 0, 0)", x.action(1, 21, 0, 0), -1);
        CHECK.due("action(1, 0, -1, 0)", x.action(1, 0, -1, 0), -1);
        CHECK.due("action(1, 0, 0, 3)", x.action(1, 0, 0, 3), -1);
        CHECK.due("action(1, 0, MAX, 0)", x.action(1, 0, Integer.MAX_VALUE, 0), -2);
        CHECK.due("actions(0, 0, 0)", x.actions(0, 0, 0), -1);
        CHECK.due("actions(61, 0, 0)", x.actions(61, 0, 0), -1);
        CHECK.due("actions(1, 21, 0)", x.actions(1, 21, 0), -1);
        CHECK.due("actions(1, 0, 3)", x.actions(1, 0, 3), -1);
    }
}
