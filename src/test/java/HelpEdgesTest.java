import java.util.ArrayList;
import java.util.List;

/** Sentence by sentence: what the document says at the edges of help lines and of promises 14 and 15. */
final class HelpEdgesTest {
    private static final String BECOMES = "7k/5K2/8/8/8/8/6p1/5R1R b - - 0 1";
    private static final String MANY = "k7/p6n/2K5/8/8/8/5QQ1/5R2 b - - 0 1";
    private static final String MATED = "R5k1/5ppp/8/8/8/8/8/6K1 b - - 0 1";
    private static final String STALEMATED = "7k/5Q2/8/6K1/8/8/8/8 b - - 0 1";
    private static final String[] QUICKEST = {"f2f3 e7e5 g2g4 d8h4", "f2f3 e7e6 g2g4 d8h4", "f2f4 e7e5 g2g4 d8h4", "f2f4 e7e6 g2g4 d8h4",
        "g2g4 e7e5 f2f3 d8h4", "g2g4 e7e5 f2f4 d8h4", "g2g4 e7e6 f2f3 d8h4", "g2g4 e7e6 f2f4 d8h4"};
    private static final int[][] WRONG = {{-1, 1}, {2, 1}, {-1, 2}, {2, 2}, {Integer.MIN_VALUE, 1}, {Integer.MAX_VALUE, 2},
        {0, 0}, {1, 0}, {0, 3}, {1, 3}, {0, -1}, {1, -2}, {0, Integer.MIN_VALUE}, {1, Integer.MAX_VALUE}, {2, 3}, {-1, 0}};

    public static void main(String[] args) {
        sideThatBegan();
        lastOfAll();
        byTheGoal();
        inOrder();
        howMany();
        linesRefused();
        moves();
        noSuchLine();
        noSuchMove();
        lineRefused();
        eitherFirst();
        manyLines();
        presentPosition();
        Check.end();
    }

    private static String all(MateProblems x, int goal, int n) {
        int count = x.lines(goal, n);
        List<String> all = new ArrayList<>();
        for (int i = 0; i < count; i++) {
            all.add(Check.line(x, goal, n, i));
        }
        return String.join(", ", all);
    }

    // Terms.

    private static void sideThatBegan() {
        Check.says("2 * n legal moves one behind the other, behind the last of which the side that began is beaten");
        // White can mate at once, which is no help line; black can be mated when he begins.
        MateProblems white = Check.at("7k/8/5KQ1/8/8/8/8/8 w - - 0 1");
        for (int goal = 0; goal < 2; goal++) {
            for (int n = 1; n <= 2; n++) {
                Check.due("lines " + goal + " " + n, white.lines(goal, n), 0);
            }
        }
        Check.due("black begins", all(Check.at("7k/8/5KQ1/8/8/8/8/8 b - - 0 1"), 0, 1), "");
        Check.due("black begins", all(Check.at("6k1/8/5KQ1/8/8/8/8/8 b - - 0 1"), 0, 1), "g8f8 g6f7, g8h8 g6g7");
        Check.due("lines that end sooner are none", Check.at(MATED).lines(0, 1), 0);
    }

    private static void lastOfAll() {
        Check.says("2 * n legal moves: not fewer");
        MateProblems x = new MateProblems();
        Check.play(x, "f2f3 e7e5");
        Check.due("in one move", all(x, 0, 1), "g2g4 d8h4");
        Check.due("in two moves there are others", x.lines(0, 2) > 1, true);
        Check.due("a mate before the end has no line", all(x, 0, 2).contains("g2g4 d8h4 "), false);
    }

    private static void byTheGoal() {
        Check.says("with a goal: .. the side that began is beaten");
        String text = "8/8/2Q5/8/8/Q6k/8/2K2Q2 b - - 0 1";
        MateProblems x = Check.at(text);
        for (int goal = 0; goal < 2; goal++) {
            Reference wanted = new Reference();
            Check.due(text, wanted.read(text), 0);
            List<List<Integer>> lines = wanted.lines(goal, 2);
            Check.due("lines", x.lines(goal, 1), lines.size());
            for (int i = 0; i < lines.size(); i++) {
                Check.due("line " + i, x.line(goal, 1, i, 1), lines.get(i).get(1));
            }
        }
    }

    private static void inOrder() {
        Check.says("Lines are in order by their first moves, then by the second ones, and so on.");
        Check.due("what the pawn becomes", all(Check.at(BECOMES), 0, 1), "g2h1n f1h1, g2h1b f1h1, g2h1r f1h1, g2h1q f1h1");
        Check.due("the quickest mates", all(new MateProblems(), 0, 2), String.join(", ", QUICKEST));
        MateProblems x = Check.at("8/8/2Q5/8/8/Q6k/8/2K2Q2 b - - 0 1");
        int count = x.lines(1, 1);
        long before = -1;
        for (int i = 0; i < count; i++) {
            long now = rank(x.line(1, 1, i, 0)) << 20 | rank(x.line(1, 1, i, 1));
            Check.due("line " + i + " is behind the one before", now > before, true);
            before = now;
        }
    }

    private static long rank(int move) {
        return (move & 63) * 512L + (move >> 6 & 63) * 8L + (move >> 12);
    }

    // Promise 14.

    private static void howMany() {
        Check.says("How many HELP LINES in n moves there are.");
        MateProblems x = new MateProblems();
        Check.due("none", x.lines(0, 1), 0);
        Check.due("some", x.lines(0, 2), 8);
        Check.due("again", x.lines(0, 2), 8);
        Check.due("none", x.lines(1, 1), 0);
        Check.due("none", x.lines(1, 2), 0);
        Check.due("again", x.lines(0, 1), 0);
        for (String text : new String[] {MATED, STALEMATED}) {
            MateProblems y = Check.at(text);
            for (int i = 0; i < 4; i++) {
                Check.due("no legal move", y.lines(i / 2, i % 2 + 1), 0);
            }
        }
        Check.due("many", Check.at(MANY).lines(0, 2), 2156);
    }

    private static void linesRefused() {
        Check.says("IllegalArgumentException when goal is not 0 or 1, or n not 1 or 2.");
        for (String text : new String[] {BECOMES, STALEMATED}) {
            MateProblems x = Check.at(text);
            for (int[] w : WRONG) {
                Check.thrown("lines " + w[0] + " " + w[1], IllegalArgumentException.class, () -> x.lines(w[0], w[1]));
            }
        }
        MateProblems y = Check.at(BECOMES);
        Check.due("lines", y.lines(0, 1), 4);
        for (int[] w : WRONG) {
            Check.thrown("lines " + w[0] + " " + w[1], IllegalArgumentException.class, () -> y.lines(w[0], w[1]));
            Check.due("nothing changed", Check.line(y, 0, 1, 3), "g2h1q f1h1");
        }
    }

    // Promise 15.

    private static void moves() {
        Check.says("Move j (0 the first) of help line i.");
        MateProblems x = new MateProblems();
        for (int i = 7; i >= 0; i--) {
            String[] want = QUICKEST[i].split(" ");
            for (int j = 3; j >= 0; j--) {
                Check.due("line " + i + " move " + j, Check.written(x.line(0, 2, i, j)), want[j]);
            }
        }
        MateProblems y = Check.at(BECOMES);
        Check.due("the first move", Check.written(y.line(0, 1, 2, 0)), "g2h1r");
        Check.due("the last move", Check.written(y.line(0, 1, 2, 1)), "f1h1");
    }

    private static void noSuchLine() {
        Check.says("IndexOutOfBoundsException when there is no such line");
        int[] far = {-1, -2, Integer.MIN_VALUE, Integer.MIN_VALUE + 1, 1023, 1024, 1025, 100000, Integer.MAX_VALUE, Integer.MAX_VALUE - 1};
        MateProblems x = new MateProblems();
        MateProblems y = Check.at(STALEMATED);
        for (int i : far) {
            Check.thrown("line " + i, IndexOutOfBoundsException.class, () -> x.line(0, 2, i, 0));
            Check.thrown("line " + i, IndexOutOfBoundsException.class, () -> x.line(0, 1, i, 0));
            Check.thrown("line " + i, IndexOutOfBoundsException.class, () -> y.line(1, 1, i, 0));
        }
        Check.thrown("line 8 of 8", IndexOutOfBoundsException.class, () -> x.line(0, 2, 8, 0));
        Check.thrown("line 0 of none", IndexOutOfBoundsException.class, () -> x.line(0, 1, 0, 0));
        Check.thrown("line 0 of none", IndexOutOfBoundsException.class, () -> x.line(1, 2, 0, 0));
        Check.due("the last one is still there", Check.line(x, 0, 2, 7), QUICKEST[7]);
        MateProblems z = Check.at(BECOMES);
        Check.thrown("line 4 of 4, before any other call", IndexOutOfBoundsException.class, () -> z.line(0, 1, 4, 0));
        Check.due("line 3 of 4", Check.line(z, 0, 1, 3), "g2h1q f1h1");
    }

    private static void noSuchMove() {
        Check.says("IndexOutOfBoundsException when there is no such .. move");
        MateProblems x = new MateProblems();
        for (int j : new int[] {-1, -2, 4, 5, 8, Integer.MIN_VALUE, Integer.MAX_VALUE}) {
            Check.thrown("move " + j + " of 4", IndexOutOfBoundsException.class, () -> x.line(0, 2, 0, j));
            Check.thrown("no line, no move", IndexOutOfBoundsException.class, () -> x.line(0, 2, 8, j));
        }
        Check.due("move 3 of 4", Check.written(x.line(0, 2, 0, 3)), "d8h4");
        MateProblems y = Check.at(BECOMES);
        for (int j : new int[] {-1, 2, 3, 4, Integer.MIN_VALUE, Integer.MAX_VALUE}) {
            Check.thrown("move " + j + " of 2", IndexOutOfBoundsException.class, () -> y.line(0, 1, 0, j));
        }
        Check.due("move 1 of 2", Check.written(y.line(0, 1, 0, 1)), "f1h1");
    }

    private static void lineRefused() {
        Check.says("IllegalArgumentException as for lines");
        for (String text : new String[] {BECOMES, STALEMATED}) {
            MateProblems x = Check.at(text);
            for (int[] w : WRONG) {
                for (int[] ij : new int[][] {{0, 0}, {-1, 0}, {0, -1}, {4, 0}, {0, 9}, {Integer.MAX_VALUE, Integer.MIN_VALUE}}) {
                    Check.thrown("line " + w[0] + " " + w[1] + " " + ij[0] + " " + ij[1], IllegalArgumentException.class,
                            () -> x.line(w[0], w[1], ij[0], ij[1]));
                }
            }
        }
    }

    private static void eitherFirst() {
        Check.says("Move j of help line i: lines need not be asked for before, and other goals and numbers do not disturb");
        MateProblems x = Check.at(MANY);
        Check.due("line 2155", x.line(0, 2, 2155, 0) >= 0, true);
        Check.due("lines", x.lines(0, 2), 2156);
        int one = x.lines(0, 1);
        int other = x.lines(1, 1);
        MateProblems y = Check.at(MANY);
        Check.due("lines in 1, other goal", y.lines(1, 1), other);
        Check.due("lines in 1", y.lines(0, 1), one);
        Check.due("lines", y.lines(0, 2), 2156);
        Check.thrown("line behind the last", IndexOutOfBoundsException.class, () -> y.line(0, 1, one, 0));
        Check.due("the last line", Check.line(x, 0, 2, 2155), Check.line(y, 0, 2, 2155));
    }

    private static void manyLines() {
        Check.says("Move j of help line i: however many there are");
        Reference wanted = new Reference();
        Check.due(MANY, wanted.read(MANY), 0);
        List<List<Integer>> lines = wanted.lines(0, 4);
        int[] some = {0, 1, 1022, 1023, 1024, 1025, 2046, 2047, 2048, 2049, 2154, 2155, 1024, 1023, 0, 2048, 2047, 1};
        MateProblems x = Check.at(MANY);
        for (int i : some) {
            for (int j = 0; j < 4; j++) {
                Check.due("line " + i + " move " + j, x.line(0, 2, i, j), lines.get(i).get(j));
            }
        }
        for (int i : new int[] {2156, 2157, 3071, 3072, 4096, Integer.MAX_VALUE}) {
            Check.thrown("line " + i, IndexOutOfBoundsException.class, () -> x.line(0, 2, i, 0));
        }
        Check.due("line 2155", x.line(0, 2, 2155, 3), lines.get(2155).get(3));
    }

    private static void presentPosition() {
        Check.says("How many HELP LINES .. there are: in the present position");
        MateProblems x = new MateProblems();
        Check.due("lines", x.lines(0, 2), 8);
        Check.play(x, "f2f3");
        Check.due("black began", x.lines(0, 2), 0);
        Check.play(x, "e7e5");
        Check.due("the line", all(x, 0, 1), "g2g4 d8h4");
        x.back();
        Check.due("black began", x.lines(0, 1), 0);
        x.back();
        Check.due("line 7", Check.line(x, 0, 2, 7), QUICKEST[7]);
        Check.due("load", Check.loading(x, BECOMES), 0);
        Check.due("the new position's", all(x, 0, 1), "g2h1n f1h1, g2h1b f1h1, g2h1r f1h1, g2h1q f1h1");
        Check.due("load with a fault", Check.loading(x, "8/8/8/8/8/8/8/8 w - - 0 1"), 2);
        Check.due("still its lines", x.lines(0, 1), 4);
    }
}
