import java.util.List;

/**
 * Sentence by sentence: "SOLVED by a legal move, if behind that the other side is beaten", by every kind of move that can do it,
 * of either side. Each position has just one such move.
 */
final class MatingMovesTest {
    /** The man that moves gives check himself. */
    private static final String[] DIRECT = {
        "7k/5b1P/6PK/8/8/8/8/8 w - - 0 1 g6g7", "k7/P7/KP6/8/8/8/P7/8 w - - 0 1 b6b7", "k7/P7/NK6/8/8/8/8/8 w - - 0 1 a6c7",
        "8/8/7B/8/8/K7/B7/k7 w - - 0 1 h6g7", "7R/8/8/8/8/K7/8/k7 w - - 0 1 h8h1", "7k/8/7K/8/8/8/7Q/8 w - - 0 1 h2b8",
        "2K2N2/7P/8/8/3Q4/1N6/2k5/4R3 w - - 0 1 b3a1", "R7/8/8/8/8/6K1/8/7k w - - 0 1 a8a1", "7Q/8/8/8/8/7K/8/7k w - - 0 1 h8a1",
        "8/KP6/2k5/4Q3/8/8/8/8 w - - 0 1 b7b8n", "8/6PB/5KBk/8/8/8/8/8 w - - 0 1 g7g8n", "7R/kP6/8/K7/8/8/8/8 w - - 0 1 b7b8q",
        "5Q2/7k/8/5PpK/8/8/8/8 w - g6 0 1 f5g6", "2Q5/k7/8/KpP5/8/8/6P1/8 w - b6 0 1 c5b6"};

    /** The man that moves lets another one give check, along each of the eight lines, from the corner and to the corner. */
    private static final String[] DISCOVERED = {
        "8/7K/8/8/8/Q7/N7/k7 w - - 0 1 a2c3", "8/k7/8/KQ6/8/8/R7/8 w - - 0 1 a5b4", "8/K7/8/kNQ5/8/8/8/8 w - - 0 1 b5c3",
        "5QNk/8/8/8/8/6K1/8/8 w - - 0 1 g8f6", "8/5BB1/P7/8/8/2K5/8/k7 w - - 0 1 c3c2", "Q7/8/8/8/8/5K2/8/5N1k w - - 0 1 f3f2",
        "kBn5/8/2K5/8/8/8/8/7B w - - 0 1 c6c7", "6bk/8/5K2/8/8/2B5/p7/8 w - - 0 1 f6g6", "k7/8/8/KR6/8/8/8/Q7 w - - 0 1 a5b4",
        "8/8/8/8/8/8/7p/R3K2k w Q - 0 1 e1f2", "7k/8/5K2/8/8/8/8/BQ6 w - - 0 1 f6f7", "K7/8/8/8/4Qr2/2k5/2N5/2Q5 w - - 0 1 c2a1",
        "8/1B6/r7/6QQ/R7/8/RK3k2/qQ6 w - - 0 1 b2a1"};

    /** The same with other men on other lines of the king. */
    private static final String[] AMONG_OTHERS = {
        "7R/8/8/8/7N/8/8/R3KB1k w Q - 0 1 h4f3", "8/B7/8/5Ppk/8/7K/8/7Q w - g6 0 1 h3g3", "8/8/8/8/8/8/8/BBk1K2R w K - 0 1 e1e2",
        "R7/8/8/8/8/5N2/8/R3K2k w Q - 0 1 e1f2", "8/8/8/8/K5Q1/5N2/2R5/3kb3 w - - 0 1 f3d4", "8/8/3Q4/4P3/6b1/6k1/5R2/N3K2R w K - 0 1 e5e6",
        "2k5/1R6/P3K3/5B2/8/8/R7/8 w - - 0 1 e6e7"};

    private static final String[] IN_PASSING = {
        "8/7Q/8/6pP/8/5K1k/8/8 w - g6 0 1 h5g6", "8/8/k1K5/Pp6/8/8/8/R7 w - b6 0 1 a5b6", "7k/5K2/8/6pP/8/8/8/7R w - g6 0 1 h5g6",
        "8/K7/8/NkpP2R1/8/Q7/8/B7 w - c6 0 1 d5c6", "8/8/7p/Q3pP1k/8/6Q1/4K3/8 w - e6 0 1 f5e6", "8/8/3B4/1pP5/7K/k7/2Q5/8 w - b6 0 1 c5b6",
        "B7/8/8/3Pp1K1/8/6Q1/8/7k w - e6 0 1 d5e6", "8/8/k1K5/Pp5R/2Q4P/8/8/8 w - b6 0 1 a5b6", "5K1k/2R5/8/3pP3/8/8/8/B7 w - d6 0 1 e5d6",
        "8/K6B/7k/4BPpp/8/4B3/8/8 w - g6 0 1 f5g6", "8/8/7p/R2pP2k/7p/8/8/K5R1 w - d6 0 1 e5d6"};

    private static final String[] CASTLING = {
        "8/8/4Q3/B7/8/3k4/8/R3K3 w Q - 0 1 e1c1", "8/8/8/8/8/8/Q7/R3K2k w Q - 0 1 e1c1", "8/8/4R3/8/7Q/5k2/8/4K2R w K - 0 1 e1g1",
        "8/8/8/8/8/8/7Q/k3K2R w K - 0 1 e1g1"};

    /** What a pawn becomes matters: stalemate by a rook, a bishop or a knight alone. */
    private static final String[] STALEMATES = {
        "1R6/2P5/k7/8/1B6/P7/K7/8 w - - 0 1 c7c8n", "8/5P2/5kP1/3P2R1/8/5NK1/8/8 w - - 0 1 f7f8b", "8/kP6/8/1Q6/2P5/2P5/7P/7K w - - 0 1 b7b8r"};

    public static void main(String[] args) {
        Check.says("SOLVED by a legal move, if behind that the other side is beaten");
        for (String[] group : new String[][] {DIRECT, DISCOVERED, AMONG_OTHERS, IN_PASSING, CASTLING}) {
            for (String one : group) {
                solves(one, 0);
                solves(turned(one), 0);
            }
        }
        for (String one : STALEMATES) {
            solves(one, 1);
            solves(turned(one), 1);
        }
        Check.end();
    }

    private static void solves(String one, int goal) {
        int end = one.lastIndexOf(' ');
        String text = one.substring(0, end);
        String move = one.substring(end + 1);
        MateProblems x = Check.at(text);
        Check.due(text + " keys", Check.keys(x, 0, goal, 1), move);
        Check.due(text + " least", x.least(0, goal, 1), 1);
        Check.due(text + " least of 3", x.least(0, goal, 3), 1);
        int k = Check.place(x, move);
        Check.due(text + " is legal", k >= 0, true);
        Check.due(text + " nothing refutes it", x.refuted(0, goal, 1, k), MateProblems.NONE);
        Check.play(x, move);
        Check.due(text + " beaten", x.beaten(), goal + 1);
        helped(text, goal);
    }

    /** The same position with the other side to move first, as a help problem. */
    private static void helped(String text, int goal) {
        String[] field = text.split(" ");
        String other = field[0] + (field[1].equals("w") ? " b " : " w ") + field[2] + " - 0 1";
        Reference wanted = new Reference();
        MateProblems x = new MateProblems();
        int fault = wanted.read(other);
        Check.due(other, Check.loading(x, other), fault);
        if (fault != 0) {
            return;
        }
        List<List<Integer>> lines = wanted.lines(goal, 2);
        Check.due(other + " lines", x.lines(goal, 1), lines.size());
        for (int i = 0; i < lines.size() && i < 100; i++) {
            Check.due(other + " line " + i, x.line(goal, 1, i, 0), lines.get(i).get(0));
            Check.due(other + " line " + i, x.line(goal, 1, i, 1), lines.get(i).get(1));
        }
    }

    /** The board upside down, and the sides changed. */
    private static String turned(String one) {
        String[] field = one.split(" ");
        String[] ranks = field[0].split("/");
        StringBuilder men = new StringBuilder();
        for (int i = 7; i >= 0; i--) {
            men.append(otherCase(ranks[i])).append(i > 0 ? "/" : "");
        }
        return men + (field[1].equals("w") ? " b " : " w ") + otherCase(field[2]) + " " + turnedRanks(field[3]) + " 0 1 " + turnedRanks(field[6]);
    }

    private static String otherCase(String men) {
        StringBuilder other = new StringBuilder();
        for (char c : men.toCharArray()) {
            other.append(Character.isUpperCase(c) ? Character.toLowerCase(c) : Character.toUpperCase(c));
        }
        return other.toString();
    }

    private static String turnedRanks(String squares) {
        StringBuilder other = new StringBuilder();
        for (char c : squares.toCharArray()) {
            other.append(Character.isDigit(c) ? (char) ('9' - c + '0') : c);
        }
        return other.toString();
    }
}
