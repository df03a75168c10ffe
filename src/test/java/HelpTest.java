import java.util.ArrayList;
import java.util.List;

/** Promises 14 and 15: lines and line. */
final class HelpTest {
    private static final String FIRST = "rnbqkbnr/pppppppp/8/8/8/8/PPPPPPPP/RNBQKBNR w KQkq - 0 1";

    public static void main(String[] args) {
        quickestMates();
        shortLines();
        positionsChange();
        manyLines("k7/p6n/2K5/8/8/8/5QQ1/5R2 b - - 0 1", 0, 2, 2156);
        manyLines("k6n/8/K7/8/8/8/8/3QR1Q1 b - - 0 1", 0, 2, 1520);
        manyLines("k6n/8/K7/8/8/8/8/3QR1Q1 b - - 0 1", 1, 2, 105);
        manyLines("8/8/2Q5/8/8/Q6k/8/2K2Q2 b - - 0 1", 1, 2, 945);
        manyLines("8/8/2Q5/8/8/Q6k/8/2K2Q2 b - - 0 1", 1, 1, 33);
        manyLines("8/8/2Q5/8/8/Q6k/8/2K2Q2 b - - 0 1", 0, 1, 11);
        withoutMoves();
        wrongArguments();
        Check.end();
    }

    /** From the first position white can be mated in two moves in eight ways. */
    private static void quickestMates() {
        MateProblems x = new MateProblems();
        Check.due("lines", x.lines(0, 1), 0);
        Check.due("lines", x.lines(0, 2), 8);
        String[] want = {"f2f3 e7e5 g2g4 d8h4", "f2f3 e7e6 g2g4 d8h4", "f2f4 e7e5 g2g4 d8h4", "f2f4 e7e6 g2g4 d8h4",
            "g2g4 e7e5 f2f3 d8h4", "g2g4 e7e5 f2f4 d8h4", "g2g4 e7e6 f2f3 d8h4", "g2g4 e7e6 f2f4 d8h4"};
        for (int i = 7; i >= 0; i--) {
            Check.due("line " + i, Check.line(x, 0, 2, i), want[i]);
        }
        Check.due("lines to stalemate", x.lines(1, 2), 0);
        // Without a call of lines before it.
        Check.due("line 5", Check.line(new MateProblems(), 0, 2, 5), want[5]);
    }

    private static void shortLines() {
        MateProblems x = Check.at("7k/5K2/8/8/8/8/6p1/5R1R b - - 0 1");
        Check.due("lines", x.lines(0, 1), 4);
        String[] want = {"g2h1n f1h1", "g2h1b f1h1", "g2h1r f1h1", "g2h1q f1h1"};
        for (int i = 0; i < 4; i++) {
            Check.due("line " + i, Check.line(x, 0, 1, i), want[i]);
        }
    }

    private static void positionsChange() {
        MateProblems x = new MateProblems();
        Check.due("lines", x.lines(0, 2), 8);
        Check.play(x, "f2f3 e7e5");
        Check.due("lines behind two moves", x.lines(0, 1), 1);
        Check.due("the line", Check.line(x, 0, 1, 0), "g2g4 d8h4");
        Check.thrown("only one line", IndexOutOfBoundsException.class, () -> x.line(0, 1, 1, 0));
        x.back();
        Check.due("lines of black", x.lines(0, 1), 0);
        x.back();
        Check.due("lines as before", x.lines(0, 2), 8);
        Check.due("load", Check.loading(x, "7k/8/5KQ1/8/8/8/8/8 w - - 0 1"), 0);
        Check.due("lines of another position", x.lines(0, 2), 0);
        Check.due("load", Check.loading(x, FIRST), 0);
        Check.due("the last line", Check.line(x, 0, 2, 7), "g2g4 e7e6 f2f4 d8h4");
        Check.thrown("goals are not mixed", IndexOutOfBoundsException.class, () -> x.line(1, 2, 0, 0));
        Check.thrown("numbers of moves are not mixed", IndexOutOfBoundsException.class, () -> x.line(0, 1, 0, 0));
        Check.due("the first line", Check.line(x, 0, 2, 0), "f2f3 e7e5 g2g4 d8h4");
    }

    /** More lines than anybody keeps at once, asked for from both ends in turn. */
    private static void manyLines(String text, int goal, int n, int due) {
        Reference position = new Reference();
        Check.due(text, position.read(text), 0);
        List<List<Integer>> want = position.lines(goal, 2 * n);
        int count = want.size();
        MateProblems x = Check.at(text);
        Check.due("lines of " + text, x.lines(goal, n), due);
        Check.due("lines of the reference", count, due);
        List<Integer> order = new ArrayList<>();
        for (int i = 0; i < count; i += 97) {
            order.add(i);
            order.add(count - 1 - i);
        }
        for (int i : order) {
            for (int j = 0; j < 2 * n; j++) {
                Check.due(text + " line " + i + " move " + j, x.line(goal, n, i, j), want.get(i).get(j));
            }
        }
        Check.thrown("behind the last", IndexOutOfBoundsException.class, () -> x.line(goal, n, count, 0));
    }

    private static void withoutMoves() {
        for (String text : new String[] {"7k/5Q2/8/6K1/8/8/8/8 b - - 0 1", "R5k1/5ppp/8/8/8/8/8/6K1 b - - 0 1"}) {
            MateProblems x = Check.at(text);
            for (int goal = 0; goal < 2; goal++) {
                int g = goal;
                Check.due("lines", x.lines(goal, 1), 0);
                Check.due("lines", x.lines(goal, 2), 0);
                Check.thrown("line", IndexOutOfBoundsException.class, () -> x.line(g, 1, 0, 0));
            }
        }
    }

    private static void wrongArguments() {
        MateProblems x = new MateProblems();
        int[][] wrong = {{-1, 1}, {2, 1}, {0, 0}, {0, 3}, {1, -1}, {Integer.MIN_VALUE, 1}, {0, Integer.MAX_VALUE}};
        for (int[] w : wrong) {
            Check.thrown("lines", IllegalArgumentException.class, () -> x.lines(w[0], w[1]));
            Check.thrown("line", IllegalArgumentException.class, () -> x.line(w[0], w[1], 0, 0));
            Check.thrown("line, wrong twice", IllegalArgumentException.class, () -> x.line(w[0], w[1], -1, 9));
        }
        int[][] none = {{8, 0}, {-1, 0}, {0, -1}, {0, 4}, {Integer.MAX_VALUE, 0}, {Integer.MIN_VALUE, 0},
            {0, Integer.MAX_VALUE}, {0, Integer.MIN_VALUE}};
        for (int[] ij : none) {
            Check.thrown("line " + ij[0] + " " + ij[1], IndexOutOfBoundsException.class, () -> x.line(0, 2, ij[0], ij[1]));
        }
        MateProblems y = Check.at("7k/5K2/8/8/8/8/6p1/5R1R b - - 0 1");
        Check.thrown("move 2 of 2", IndexOutOfBoundsException.class, () -> y.line(0, 1, 0, 2));
    }
}
