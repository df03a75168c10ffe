import java.util.ArrayList;
import java.util.List;

/** Sentence by sentence: what the document says at the edges of problems and of promises 10 to 13. */
final class ProblemEdgesTest {
    private static final String QUEEN = "7k/8/5KQ1/8/8/8/8/8 w - - 0 1";
    private static final String MORPHY = "kbK5/pp6/1P6/8/8/8/8/R7 w - - 0 1";
    private static final String THREE = "8/8/8/7n/2k5/7p/3n4/K1b5 b - - 0 1";
    private static final String MATED = "R5k1/5ppp/8/8/8/8/8/6K1 b - - 0 1";
    private static final String STALEMATED = "7k/5Q2/8/6K1/8/8/8/8 b - - 0 1";
    private static final String SELFMATE = "4r2k/5Q2/6Q1/8/8/b3q3/1p1p4/4n2K w - - 0 1";
    private static final int[][] WRONG = {{-1, 0, 1}, {2, 0, 1}, {-1, 1, 3}, {2, 1, 3}, {Integer.MIN_VALUE, 0, 1}, {Integer.MAX_VALUE, 1, 2},
        {0, -1, 1}, {0, 2, 1}, {1, -1, 3}, {1, 2, 3}, {0, Integer.MIN_VALUE, 2}, {1, Integer.MAX_VALUE, 2},
        {0, 0, 0}, {0, 1, 0}, {1, 0, 0}, {1, 1, 0}, {0, 0, 4}, {0, 1, 4}, {1, 0, 4}, {1, 1, 4}, {0, 0, -1}, {1, 1, -1},
        {0, 0, Integer.MIN_VALUE}, {1, 1, Integer.MAX_VALUE}, {2, 2, 4}, {-1, -1, 0}};

    public static void main(String[] args) {
        constants();
        directAtOnce();
        directAboveOne();
        directEachMove();
        selfHasMove();
        selfBeaten();
        selfAboveOne();
        firstRefutation();
        refutedInSelf();
        refutedInZero();
        refutedBySpecialMoves();
        byNothing();
        keysCounted();
        behindEightMoves();
        keysWithoutMoves();
        keysRefused();
        keysInOrder();
        keyLatest();
        keyNone();
        keyGone();
        keyLeft();
        leastOfMost();
        leastRefused();
        refutedAnswers();
        refutedRefused();
        Check.end();
    }

    private static void keys(int kind, int goal, int n, String text, String want) {
        Check.due("keys " + kind + " " + goal + " " + n + " of " + text, Check.keys(Check.at(text), kind, goal, n), want);
    }

    private static void refuted(int kind, int goal, int n, String text, String move, String want) {
        MateProblems x = Check.at(text);
        int k = Check.place(x, move);
        Check.due(move + " is legal", k >= 0, true);
        if (k >= 0) {
            String what = "refuted " + kind + " " + goal + " " + n + " " + move + " of " + text;
            Check.due(what, Check.written(x.refuted(kind, goal, n, k)), want);
        }
    }

    private static void constants() {
        Check.says("STUCK = -2: Nothing refutes it: there is no legal move.");
        Check.due("NONE", MateProblems.NONE, -1);
        Check.due("STUCK", MateProblems.STUCK, -2);
    }

    // Terms: direct problems.

    private static void directAtOnce() {
        Check.says("SOLVED by a legal move, if behind that the other side is beaten");
        for (int n = 1; n <= 3; n++) {
            refuted(0, 0, n, QUEEN, "g6g7", "-1");
            refuted(0, 1, n, QUEEN, "g6f7", "-1");
            refuted(0, 1, n, QUEEN, "f6f5", "-1");
        }
        // By the other goal it is not solved, in however many moves.
        for (int n = 1; n <= 3; n++) {
            refuted(0, 1, n, QUEEN, "g6g7", "-2");
            refuted(0, 0, n, QUEEN, "g6f7", "-2");
        }
        // A pawn's two steps that can be taken in passing do not mate.
        keys(0, 0, 1, "8/6p1/8/7P/5kbK/8/8/8 b - - 0 1", "");
        refuted(0, 0, 1, "8/6p1/8/7P/5kbK/8/8/8 b - - 0 1", "g7g5", "h5g6");
        keys(0, 0, 1, "8/6p1/7P/8/5kbK/8/8/8 b - - 0 1", "g7g5");
    }

    private static void directAboveOne() {
        Check.says("or if n is above 1, the other side has a legal move, and behind each of its legal moves some legal move solves "
                + "the problem in n - 1 moves");
        keys(0, 0, 1, QUEEN, "g6g7");
        keys(0, 0, 2, QUEEN, "g6g1 g6g2 g6g3 g6g4 g6g5 g6h6 g6g7");
        keys(0, 0, 3, QUEEN, "g6b1 g6g1 g6c2 g6g2 g6d3 g6g3 g6e4 g6g4 g6f5 g6g5 g6h5 g6h6 g6g7 g6e8");
        keys(0, 1, 1, QUEEN, "f6e5 f6f5 f6g5 f6e6 f6e7 f6f7 g6f7");
        keys(0, 1, 2, QUEEN, "f6e5 f6f5 f6g5 f6e6 f6e7 f6f7 g6h5 g6h6 g6f7 g6e8");
        keys(0, 0, 1, MORPHY, "");
        keys(0, 0, 2, MORPHY, "a1a6");
        keys(0, 0, 2, THREE, "");
        keys(0, 0, 3, THREE, "h3h2");
    }

    private static void directEachMove() {
        Check.says("behind each of its legal moves: one that is not answered is enough to refute");
        refuted(0, 0, 2, "8/8/6q1/1r6/8/7q/8/R3K1k1 b Q - 0 1", "b5b2", "e1c1");
        refuted(0, 0, 2, "8/8/6q1/1r6/8/7q/8/R3K1k1 b - - 0 1", "b5b2", "-1");
        refuted(0, 0, 2, "8/3n4/8/2r5/8/k5P1/1p6/4K2R b K - 0 1", "c5c2", "e1g1");
        refuted(0, 0, 2, "8/3n4/8/2r5/8/k5P1/1p6/4K2R b - - 0 1", "c5c2", "-1");
    }

    // Terms: self problems.

    private static void selfHasMove() {
        Check.says("It is a SELF problem .. if behind that the other side has a legal move");
        for (int n = 1; n <= 3; n++) {
            for (int goal = 0; goal < 2; goal++) {
                refuted(1, goal, n, QUEEN, "g6g7", "-2");
                refuted(1, goal, n, QUEEN, "g6f7", "-2");
                refuted(1, goal, n, QUEEN, "f6f5", "-2");
            }
        }
    }

    private static void selfBeaten() {
        Check.says("and behind each of its legal moves the first side is beaten");
        keys(1, 0, 1, "4r2k/3q1Q2/6Q1/3n4/3r4/3b4/1p3q2/3K4 w - - 0 1", "g6h5 g6h7");
        keys(1, 1, 1, "4r2k/8/6Q1/8/8/8/1b3q2/n2K4 w - - 0 1", "g6h7 g6g8");
        keys(1, 1, 1, "4r2k/3q1Q2/6Q1/3n4/3r4/3b4/1p3q2/3K4 w - - 0 1", "");
        keys(1, 0, 1, "4r2k/8/6Q1/8/8/8/1b3q2/n2K4 w - - 0 1", "");
        // The first reply mates, the last one does not.
        refuted(1, 0, 1, "K4R2/2Q5/k1p5/8/8/8/1q3p2/8 w - - 0 1", "c7b7", "a6a5");
        refuted(1, 0, 1, "5k1K/8/8/5n2/8/1Q4q1/8/8 w - - 0 1", "b3g8", "f8e7");
        refuted(1, 1, 1, "8/8/3R1r2/2q5/r7/p7/2q3p1/K1k5 w - - 0 1", "d6d1", "c2d1");
    }

    private static void selfAboveOne() {
        Check.says("or n is above 1 and some legal move solves the problem in n - 1 moves");
        // Behind one reply the first side is beaten at once, behind the other one a move later.
        String stalemate = "KQ6/7q/6q1/6k1/8/2b5/8/1q2r3 w - - 0 1";
        keys(1, 1, 1, stalemate, "");
        keys(1, 1, 2, stalemate, "b8f4");
        refuted(1, 1, 1, stalemate, "b8f4", "g5h5");
        String mate = "5k1K/4p3/6Q1/5n2/2q5/1Q4q1/8/8 w - - 0 1";
        keys(1, 0, 1, mate, "");
        Check.due("keys in 2", Check.keys(Check.at(mate), 1, 0, 2).contains("g6g8"), true);
        // Behind no reply at once.
        keys(1, 1, 1, "KQ6/7q/6qk/8/8/2b5/8/1q2r3 w - - 0 1", "");
        keys(1, 1, 2, "KQ6/7q/6qk/8/8/2b5/8/1q2r3 w - - 0 1", "b8f4");
        keys(1, 0, 1, SELFMATE, "");
        keys(1, 0, 2, SELFMATE, "f7g8");
        keys(1, 1, 2, "7k/5Q2/Rp4r1/6r1/8/8/1p3q1n/3K4 w - - 0 1", "");
        keys(1, 1, 3, "7k/5Q2/Rp4r1/6r1/8/8/1p3q1n/3K4 w - - 0 1", "a6a8");
        refuted(1, 1, 3, "7k/5Q2/Rp4r1/6r1/8/8/1p3q1n/3K4 w - - 0 1", "a6a8", "-1");
        refuted(1, 1, 2, "7k/5Q2/Rp4r1/6r1/8/8/1p3q1n/3K4 w - - 0 1", "a6a8", "g6g8");
    }

    // Terms: refuted.

    private static void firstRefutation() {
        Check.says("REFUTED by the first legal move of the other side, in order");
        MateProblems x = new MateProblems();
        for (int k = 0; k < 20; k++) {
            Check.due("in 1, move " + k, Check.written(x.refuted(0, 0, 1, k)), "a7a5");
            Check.due("self in 1, move " + k, Check.written(x.refuted(1, 0, 1, k)), "a7a5");
        }
        String[] texts = {QUEEN, MORPHY, "6k1/2Q5/8/8/8/3N4/8/3K4 w - - 0 1", SELFMATE};
        for (String text : texts) {
            for (int kind = 0; kind < 2; kind++) {
                for (int goal = 0; goal < 2; goal++) {
                    allRefuted(text, kind, goal, 2);
                }
            }
        }
        // Asked one behind the other, the answers are the same as alone.
        MateProblems all = Check.at(MORPHY);
        int moves = all.moves();
        for (int k = 0; k < moves; k++) {
            Check.due("move " + k, all.refuted(0, 0, 2, k), Check.at(MORPHY).refuted(0, 0, 2, k));
        }
    }

    private static void allRefuted(String text, int kind, int goal, int n) {
        Reference wanted = new Reference();
        Check.due(text, wanted.read(text), 0);
        MateProblems x = Check.at(text);
        List<Integer> legal = wanted.legal();
        for (int k = 0; k < legal.size(); k++) {
            String what = text + " kind " + kind + " goal " + goal + " move " + k;
            Check.due(what, x.refuted(kind, goal, n, k), wanted.refuted(legal.get(k), kind, goal, n));
        }
    }

    private static void refutedInSelf() {
        Check.says("behind which the first side is not beaten (in a self problem)");
        // Earlier replies beat by the goal; this one beats too, but by the other goal.
        refuted(1, 0, 1, "8/8/n3Qq2/k7/p7/3r4/1r4q1/K7 w - - 0 1", "e6b6", "a5b6");
        refuted(1, 1, 1, "8/5r2/8/8/8/5q2/1Q3qr1/5k1K w - - 0 1", "b2f2", "g2f2");
        refuted(1, 1, 1, "4qk1K/6R1/8/8/8/3q1r2/5p2/8 w - - 0 1", "g7f7", "f8f7");
        // In a direct problem the only reply that refutes is one that mates the first side.
        refuted(0, 0, 2, "2K5/4Q3/r1k5/8/8/8/6R1/8 w - - 0 1", "g2g5", "a6a8");
        refuted(0, 0, 2, "1Q5K/5k2/6r1/8/8/Q7/P6Q/8 w - - 0 1", "h2e5", "g6h6");
        refuted(0, 1, 2, "K3n3/8/k7/1R1Q4/8/8/6Q1/8 w - - 0 1", "b5b8", "e8c7");
        refuted(0, 1, 2, "8/8/5R2/6Q1/8/k1q5/2Q5/K7 w - - 0 1", "c2b2", "c3b2");
    }

    private static void refutedInZero() {
        Check.says("no legal move solves the problem in n - 1 moves (none does in 0)");
        refuted(0, 0, 1, QUEEN, "g6g5", "h8h7");
        refuted(0, 0, 2, QUEEN, "g6g5", "-1");
        refuted(0, 1, 1, QUEEN, "g6h5", "h8g8");
        refuted(0, 1, 2, QUEEN, "g6h5", "-1");
        refuted(1, 0, 1, SELFMATE, "f7g8", "e8g8");
        refuted(1, 0, 2, SELFMATE, "f7g8", "-1");
    }

    private static void refutedBySpecialMoves() {
        Check.says("REFUTED by the first legal move of the other side: castling, in passing, and what a pawn becomes are such too");
        refuted(0, 0, 1, "8/5p1r/4n3/4q1P1/4k1K1/8/8/5B2 b - - 0 1", "f7f5", "g5f6");
        refuted(0, 0, 2, "8/4qp2/4r3/6P1/7K/8/2p2k2/8 b - - 0 1", "f7f5", "g5f6");
        refuted(0, 0, 2, "3Q4/3R4/k7/8/p2N4/7N/1P6/1K6 w - - 0 1", "b2b4", "a4b3");
        refuted(0, 1, 2, "8/1p4pk/8/7P/7K/3N4/r5q1/8 b - - 0 1", "g7g5", "h5g6");
        refuted(0, 0, 2, "1K6/P7/1k6/8/8/6n1/8/6q1 b - - 0 1", "g1c1", "a7a8n");
        refuted(0, 0, 2, "1K6/P7/1k6/8/8/6n1/8/6q1 b - - 0 1", "g1e1", "a7a8n");
        refuted(1, 1, 3, "7k/5Q2/Rp4r1/6r1/8/8/1p3q1n/3K4 w - - 0 1", "a6a1", "b2a1n");
    }

    private static void byNothing() {
        Check.says("or, if the other side has no legal move, by nothing");
        for (int n = 1; n <= 3; n++) {
            refuted(0, 0, n, QUEEN, "f6e5", "-2");
            refuted(0, 1, n, QUEEN, "g6g7", "-2");
            refuted(1, 0, n, QUEEN, "g6g7", "-2");
            refuted(1, 1, n, QUEEN, "f6e5", "-2");
        }
        refuted(0, 0, 3, THREE, "c4b3", "-2");
        refuted(1, 0, 2, SELFMATE, "f7h7", "-2");
    }

    // Promise 10.

    private static void keysCounted() {
        Check.says("How many KEYS the present position has as a problem of that kind, with that goal, in n moves.");
        MateProblems x = Check.at(QUEEN);
        int[] due = {1, 7, 14, 7, 10, 20, 0, 0, 0, 0, 0, 0};
        for (int i = 0; i < 12; i++) {
            Check.due("keys " + i / 6 + " " + i / 3 % 2 + " " + (i % 3 + 1), x.keys(i / 6, i / 3 % 2, i % 3 + 1), due[i]);
        }
        Check.play(x, "g6h6");
        Check.due("the present position", x.keys(0, 0, 1), 0);
        Check.play(x, "h8g8");
        Check.due("the present position", Check.keys(x, 0, 0, 1), "h6g7");
        x.back();
        x.back();
        Check.due("as before", x.keys(0, 0, 1), 1);
    }

    /** However many moves are made, a problem of three moves of each side is looked through to its end. */
    private static void behindEightMoves() {
        Check.says("How many KEYS the present position has: behind eight moves too");
        String text = "7k/5Q2/Rp4r1/6r1/8/8/1p3q1n/3K4 w - - 0 1";
        MateProblems x = Check.at(text);
        Check.play(x, "a6a7 h2f1 a7a6 f1h2 a6a7 h2f1 a7a6 f1h2");
        Check.due("keys", Check.keys(x, 1, 1, 3), "a6a8");
        Check.due("least", x.least(1, 1, 3), 3);
        Check.due("the key", x.refuted(1, 1, 3, Check.place(x, "a6a8")), MateProblems.NONE);
        Check.due("not a key", Check.written(x.refuted(1, 1, 3, Check.place(x, "a6a1"))), "b2a1n");
        MateProblems y = Check.at(QUEEN);
        Check.play(y, "g6g1 h8h7 g1g6 h7h8 g6g1 h8h7 g1g6 h7h8");
        MateProblems alone = Check.at(QUEEN);
        for (int i = 0; i < 12; i++) {
            Check.due("keys", Check.keys(y, i / 6, i / 3 % 2, i % 3 + 1), Check.keys(alone, i / 6, i / 3 % 2, i % 3 + 1));
        }
        for (int i = 0; i < 4; i++) {
            Check.due("lines", y.lines(i / 2, i % 2 + 1), alone.lines(i / 2, i % 2 + 1));
        }
    }

    private static void keysWithoutMoves() {
        Check.says("(0 without legal moves)");
        for (String text : new String[] {MATED, STALEMATED}) {
            MateProblems x = Check.at(text);
            for (int i = 0; i < 12; i++) {
                Check.due("keys", x.keys(i / 6, i / 3 % 2, i % 3 + 1), 0);
                Check.due("least", x.least(i / 6, i / 3 % 2, i % 3 + 1), 0);
            }
            Check.thrown("no key", IndexOutOfBoundsException.class, () -> x.key(0));
        }
        MateProblems y = new MateProblems();
        Check.play(y, "f2f3 e7e5 g2g4 d8h4");
        Check.due("keys", y.keys(0, 0, 3), 0);
    }

    private static void keysRefused() {
        Check.says("IllegalArgumentException when kind or goal is not 0 or 1, or n not 1 .. 3.");
        for (String text : new String[] {QUEEN, STALEMATED}) {
            MateProblems x = Check.at(text);
            for (int[] w : WRONG) {
                Check.thrown("keys " + w[0] + " " + w[1] + " " + w[2], IllegalArgumentException.class, () -> x.keys(w[0], w[1], w[2]));
            }
        }
        MateProblems y = Check.at(STALEMATED);
        for (int i = 0; i < 12; i++) {
            Check.due("not refused", y.keys(i / 6, i / 3 % 2, i % 3 + 1), 0);
        }
    }

    // Promise 11.

    private static void keysInOrder() {
        Check.says("KEYS are all legal moves that solve a problem, in order.");
        keys(0, 0, 1, "1KB2k2/r3q3/4P3/8/8/5q2/6p1/8 b - - 0 1", "f3g3 f3f4 f3a8 a7a8 e7c7");
        keys(0, 0, 2, "Kb6/2k5/8/4P3/8/8/1p6/8 b - - 0 1", "b2b1b b2b1r b2b1q");
        keys(0, 1, 3, "Kb6/2k5/8/4P3/8/8/1p6/8 b - - 0 1", "b2b1b b2b1r b2b1q");
        keys(0, 0, 1, "2R1R3/8/8/8/8/3k4/8/R3K3 w Q - 0 1", "a1d1 e1c1");
        keys(1, 1, 2, "4r2k/5Q2/6Q1/8/1r3q2/4p3/1p3q2/3K4 w - - 0 1", "g6f6 g6h6 g6g8 f7f6 f7f8 f7g8");
        MateProblems x = Check.at(QUEEN);
        Check.due("keys", x.keys(0, 0, 2), 7);
        Check.due("the first", Check.written(x.key(0)), "g6g1");
        Check.due("the last", Check.written(x.key(6)), "g6g7");
        Check.due("the first again", Check.written(x.key(0)), "g6g1");
    }

    private static void keyLatest() {
        Check.says("Key i of the latest problem of which keys were asked.");
        MateProblems x = Check.at(QUEEN);
        Check.due("keys", x.keys(0, 1, 1), 7);
        Check.due("keys", x.keys(0, 0, 1), 1);
        Check.due("of the latest", Check.written(x.key(0)), "g6g7");
        Check.thrown("not of the one before", IndexOutOfBoundsException.class, () -> x.key(1));
        Check.due("keys", x.keys(0, 1, 2), 10);
        Check.due("of the latest", Check.written(x.key(9)), "g6e8");
        Check.due("keys", x.keys(1, 0, 1), 0);
        Check.thrown("the latest has none", IndexOutOfBoundsException.class, () -> x.key(0));
    }

    private static void keyNone() {
        Check.says("IndexOutOfBoundsException when there is none (none was asked ..");
        MateProblems x = Check.at(QUEEN);
        for (int i : new int[] {0, 1, -1, Integer.MIN_VALUE, Integer.MAX_VALUE}) {
            Check.thrown("none was asked, key " + i, IndexOutOfBoundsException.class, () -> x.key(i));
        }
        x.least(0, 0, 3);
        x.refuted(0, 0, 1, 0);
        x.lines(0, 1);
        Check.thrown("these calls do not ask for keys", IndexOutOfBoundsException.class, () -> x.key(0));
        Check.due("keys", x.keys(0, 0, 2), 7);
        for (int i : new int[] {-1, -2, 7, 8, 704, Integer.MIN_VALUE, Integer.MAX_VALUE}) {
            Check.thrown("key " + i + " of 7", IndexOutOfBoundsException.class, () -> x.key(i));
        }
        MateProblems y = new MateProblems();
        Check.thrown("a new object", IndexOutOfBoundsException.class, () -> y.key(0));
        Check.thrown("keys that were refused", IllegalArgumentException.class, () -> y.keys(0, 0, 0));
        Check.thrown("were not asked", IndexOutOfBoundsException.class, () -> y.key(0));
    }

    private static void noKey(String what, MateProblems x) {
        Check.thrown("no key behind " + what, IndexOutOfBoundsException.class, () -> x.key(0));
    }

    private static void keyGone() {
        Check.says(".. or the position was changed since, by load, play or back");
        MateProblems x = Check.at(QUEEN);
        Check.due("keys", x.keys(0, 0, 2), 7);
        Check.play(x, "g6g1");
        noKey("play", x);
        Check.due("keys of black", x.keys(1, 1, 1), 0);
        Check.due("back", x.back(), 0);
        noKey("back to where they were asked", x);
        Check.due("keys", x.keys(0, 0, 2), 7);
        Check.due("load", Check.loading(x, QUEEN), 0);
        noKey("load of the same position", x);
        MateProblems y = new MateProblems();
        Check.play(y, "f2f3 e7e5 g2g4");
        Check.due("keys", y.keys(0, 0, 1), 1);
        y.back();
        noKey("back", y);
        Check.play(y, "g2g4");
        noKey("the same move again", y);
    }

    private static void keyLeft() {
        Check.says("other calls leave them");
        String[] names = {"type", "type that is refused", "cut", "cut that is refused", "load with a fault", "moves", "move", "move that throws",
            "play that throws", "back that throws", "beaten", "keys that throws", "key", "key that throws", "least", "least that throws",
            "refuted", "refuted that throws", "refuted that throws otherwise", "lines", "lines that throws", "line", "line that throws",
            "line that throws otherwise"};
        for (int i = 0; i < names.length; i++) {
            MateProblems x = Check.at(QUEEN);
            Check.due("keys", x.keys(0, 0, 2), 7);
            otherCall(x, i);
            List<String> all = new ArrayList<>();
            for (int k = 0; k < 7; k++) {
                all.add(Check.written(x.key(k)));
            }
            Check.due("behind " + names[i], String.join(" ", all), "g6g1 g6g2 g6g3 g6g4 g6g5 g6h6 g6g7");
            Check.thrown("no more behind " + names[i], IndexOutOfBoundsException.class, () -> x.key(7));
        }
    }

    private static void otherCall(MateProblems x, int i) {
        switch (i) {
            case 0: Check.due("type", x.type('a', 1), true); break;
            case 1: Check.due("type", x.type('a', 9), false); break;
            case 2: Check.due("cut", x.cut(0), true); break;
            case 3: Check.due("cut", x.cut(1), false); break;
            case 4: Check.due("load", Check.loading(x, "8/8/8/8/8/8/8/8 w - - 0 1"), 2); break;
            case 5: Check.due("moves", x.moves(), 23); break;
            case 6: Check.due("move", x.move(0), Check.told("f6e5")); break;
            case 7: Check.thrown("move", IndexOutOfBoundsException.class, () -> x.move(23)); break;
            case 8: Check.thrown("play", IllegalArgumentException.class, () -> x.play(0)); break;
            case 9: Check.thrown("back", IllegalStateException.class, x::back); break;
            case 10: Check.due("beaten", x.beaten(), 0); break;
            case 11: Check.thrown("keys", IllegalArgumentException.class, () -> x.keys(0, 1, 4)); break;
            case 12: Check.due("key", x.key(0), Check.told("g6g1")); break;
            case 13: Check.thrown("key", IndexOutOfBoundsException.class, () -> x.key(-1)); break;
            case 14: Check.due("least", x.least(0, 1, 3), 1); break;
            case 15: Check.thrown("least", IllegalArgumentException.class, () -> x.least(0, 1, 4)); break;
            case 16: Check.due("refuted", x.refuted(0, 1, 1, 0), -1); break;
            case 17: Check.thrown("refuted", IllegalArgumentException.class, () -> x.refuted(0, 1, 4, 0)); break;
            case 18: Check.thrown("refuted", IndexOutOfBoundsException.class, () -> x.refuted(0, 1, 1, 23)); break;
            case 19: Check.due("lines", x.lines(1, 1), 0); break;
            case 20: Check.thrown("lines", IllegalArgumentException.class, () -> x.lines(2, 1)); break;
            case 21: Check.thrown("line", IndexOutOfBoundsException.class, () -> x.line(0, 2, 0, 0)); break;
            case 22: Check.thrown("line", IllegalArgumentException.class, () -> x.line(0, 3, 0, 0)); break;
            default: Check.thrown("line", IndexOutOfBoundsException.class, () -> x.line(0, 1, -1, 0)); break;
        }
    }

    // Promise 12.

    private static void leastOfMost() {
        Check.says("The least n, 1 .. most, for which it has a key; 0 when there is none.");
        least(0, 0, QUEEN, 1);
        least(0, 1, QUEEN, 1);
        least(1, 0, QUEEN, 0);
        least(1, 1, QUEEN, 0);
        least(0, 0, MORPHY, 2);
        least(0, 0, THREE, 3);
        least(0, 1, "6k1/2Q5/8/8/8/3N4/8/3K4 w - - 0 1", 2);
        least(0, 1, "1k6/7Q/8/8/8/5p2/8/6K1 w - - 0 1", 3);
        least(1, 0, "4r3/8/6Q1/Q7/8/b2p1Q2/1p3q1b/3K1k2 w - - 0 1", 1);
        least(1, 0, SELFMATE, 2);
        least(1, 1, "4r2k/8/6Q1/8/8/8/1b3q2/n2K4 w - - 0 1", 1);
        least(1, 1, "4r2k/8/4Q1Q1/8/8/8/1p3q2/3K4 w - - 0 1", 2);
        least(1, 1, "7k/5Q2/Rp4r1/6r1/8/8/1p3q1n/3K4 w - - 0 1", 3);
        least(0, 0, "8/8/8/8/8/4k3/8/4K3 w - - 0 1", 0);
        least(0, 0, MATED, 0);
        least(0, 1, STALEMATED, 0);
    }

    private static void least(int kind, int goal, String text, int want) {
        MateProblems x = Check.at(text);
        for (int most = 1; most <= 3; most++) {
            int due = want <= most ? want : 0;
            Check.due("least " + kind + " " + goal + " " + most + " of " + text, x.least(kind, goal, most), due);
        }
        Check.due("least again", x.least(kind, goal, 1), want == 1 ? 1 : 0);
    }

    private static void leastRefused() {
        Check.says("IllegalArgumentException when kind or goal is not 0 or 1, or most not 1 .. 3.");
        for (String text : new String[] {QUEEN, STALEMATED}) {
            MateProblems x = Check.at(text);
            for (int[] w : WRONG) {
                Check.thrown("least " + w[0] + " " + w[1] + " " + w[2], IllegalArgumentException.class, () -> x.least(w[0], w[1], w[2]));
            }
        }
    }

    // Promise 13.

    private static void refutedAnswers() {
        Check.says("What REFUTES legal move k: a move; NONE when it is a key; STUCK when it is none and the other side has no legal move.");
        MateProblems x = Check.at(QUEEN);
        int moves = x.moves();
        List<String> keys = new ArrayList<>();
        for (int k = 0; k < moves; k++) {
            if (x.refuted(0, 0, 2, k) == MateProblems.NONE) {
                keys.add(Check.written(x.move(k)));
            }
        }
        Check.due("the moves that nothing refutes are the keys", String.join(" ", keys), "g6g1 g6g2 g6g3 g6g4 g6g5 g6h6 g6g7");
        Check.due("the first legal move", x.refuted(0, 0, 1, 0), MateProblems.STUCK);
        Check.due("the last legal move", Check.written(x.refuted(0, 0, 1, moves - 1)), "h8g8");
        Check.play(x, "g6h6");
        Check.due("of the present position", Check.written(x.refuted(0, 0, 1, 0)), "f6e5");
    }

    private static void refutedRefused() {
        Check.says("IllegalArgumentException as for keys; IndexOutOfBoundsException when there is no legal move k.");
        MateProblems x = Check.at(QUEEN);
        for (int[] w : WRONG) {
            for (int k : new int[] {0, -1, 23}) {
                Check.thrown("refuted " + w[0] + " " + w[1] + " " + w[2] + " " + k, IllegalArgumentException.class,
                        () -> x.refuted(w[0], w[1], w[2], k));
            }
        }
        for (int k : new int[] {-1, -2, 23, 24, 704, Integer.MIN_VALUE, Integer.MAX_VALUE}) {
            Check.thrown("refuted " + k, IndexOutOfBoundsException.class, () -> x.refuted(0, 0, 1, k));
            Check.thrown("refuted " + k, IndexOutOfBoundsException.class, () -> x.refuted(1, 1, 3, k));
        }
        MateProblems y = Check.at(STALEMATED);
        Check.thrown("no legal move", IndexOutOfBoundsException.class, () -> y.refuted(0, 0, 1, 0));
        Check.thrown("wrong and no legal move", IllegalArgumentException.class, () -> y.refuted(0, 0, 4, 0));
        Check.due("the last one", x.refuted(0, 0, 1, 22) >= 0, true);
    }
}
