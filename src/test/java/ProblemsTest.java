/** Promises 10 to 13: keys, key, least and refuted. */
final class ProblemsTest {
    private static final String MORPHY = "kbK5/pp6/1P6/8/8/8/8/R7 w - - 0 1";
    private static final String QUEEN = "7k/8/5KQ1/8/8/8/8/8 w - - 0 1";
    private static final String SELFMATE = "4r2k/5Q2/6Q1/8/8/b3q3/1p1p4/4n2K w - - 0 1";

    public static void main(String[] args) {
        directMates();
        directStalemates();
        selfProblems();
        specialMoves();
        withoutMoves();
        wrongProblems();
        whichKeys();
        leastMoves();
        refutations();
        stuck();
        Check.end();
    }

    private static void keys(int kind, int goal, int n, String text, String want) {
        MateProblems x = Check.at(text);
        Check.due("keys " + kind + goal + n + " of " + text, Check.keys(x, kind, goal, n), want);
        Check.due("whether there is a key of " + text, x.least(kind, goal, n) > 0, !want.isEmpty());
    }

    private static void directMates() {
        keys(0, 0, 1, "8/8/8/8/8/6kq/5N2/6K1 b - - 0 1", "h3g2");
        keys(0, 0, 1, "1KB2k2/r3q3/4P3/8/8/5q2/6p1/8 b - - 0 1", "f3g3 f3f4 f3a8 a7a8 e7c7");
        keys(0, 0, 1, MORPHY, "");
        keys(0, 0, 2, MORPHY, "a1a6");
        keys(0, 0, 3, MORPHY, "a1a6");
        keys(0, 0, 2, "1N3rk1/4K1B1/3Q4/8/8/8/5QP1/8 w - - 0 1", "f2f8");
        keys(0, 0, 2, "8/8/7k/2Q2P2/4P1R1/4K3/8/8 w - - 0 1", "c5d6 c5e7 f5f6");
        keys(0, 0, 2, "Kb6/2k5/8/4P3/8/8/1p6/8 b - - 0 1", "b2b1b b2b1r b2b1q");
        keys(0, 0, 3, "1k1BK3/2N5/4N3/8/8/8/8/2Q4q w - - 0 1", "c1h1");
        keys(0, 0, 3, "8/8/8/7n/2k5/7p/3n4/K1b5 b - - 0 1", "h3h2");
        keys(0, 0, 3, "8/4P3/8/8/5K2/8/4B1R1/4k3 w - - 0 1", "e2d3 e2f3 e2c4 e2b5 e2a6 e7e8q");
        keys(0, 0, 3, "7B/1P5k/7P/1p6/6B1/8/8/6K1 w - - 0 1", "b7b8q");
        // A move that mates at once is a key in more moves too.
        keys(0, 0, 1, QUEEN, "g6g7");
        keys(0, 0, 2, QUEEN, "g6g1 g6g2 g6g3 g6g4 g6g5 g6h6 g6g7");
    }

    private static void directStalemates() {
        keys(0, 1, 1, "7K/5k1p/8/5b1p/8/8/8/8 b - - 0 1", "f5b1 f5c2 f5d3 f5e4 f5g6 h5h4 f7f8 h7h6");
        keys(0, 1, 1, QUEEN, "f6e5 f6f5 f6g5 f6e6 f6e7 f6f7 g6f7");
        keys(0, 1, 2, "7N/3P4/8/8/8/8/kp4Q1/1R4K1 w - - 0 1", "b1b2 g2c2");
        keys(0, 1, 2, "8/8/8/8/8/8/3q2P1/K1bk4 b - - 0 1", "d2g2");
        keys(0, 1, 2, "6k1/2Q5/8/8/8/3N4/8/3K4 w - - 0 1", "c7e7");
        keys(0, 1, 3, "1k6/7Q/8/8/8/5p2/8/6K1 w - - 0 1", "h7d7");
        keys(0, 1, 3, "4b3/8/8/4P3/4k3/p1P5/P3P3/Kn6 b - - 0 1", "b1c3");
        keys(0, 1, 3, "Kb6/2k5/8/4P3/8/8/1p6/8 b - - 0 1", "b2b1b b2b1r b2b1q");
    }

    private static void selfProblems() {
        keys(1, 0, 1, "4r2k/3q1Q2/6Q1/3n4/3r4/3b4/1p3q2/3K4 w - - 0 1", "g6h5 g6h7");
        keys(1, 0, 1, "4r3/8/6Q1/Q7/8/b2p1Q2/1p3q1b/3K1k2 w - - 0 1", "a5e1");
        keys(1, 0, 1, SELFMATE, "");
        keys(1, 0, 2, SELFMATE, "f7g8");
        keys(1, 0, 2, "4r2k/5Q2/6Q1/8/8/b3q1q1/1p1p4/4n2K w - - 0 1", "f7g8");
        keys(1, 1, 1, "4r2k/8/6Q1/8/8/8/1b3q2/n2K4 w - - 0 1", "g6h7 g6g8");
        keys(1, 1, 1, "7k/5Q2/1pn3r1/6r1/8/6n1/1p3q2/3K4 w - - 0 1", "f7g7 f7h7 f7g8");
        keys(1, 1, 2, "4r2k/8/4Q1Q1/8/8/8/1p3q2/3K4 w - - 0 1", "e6g8 g6g8");
        keys(1, 1, 2, "4r2k/5Q2/6Q1/8/1r3q2/4p3/1p3q2/3K4 w - - 0 1", "g6f6 g6h6 g6g8 f7f6 f7f8 f7g8");
        keys(1, 1, 3, "7k/5Q2/Rp4r1/6r1/8/8/1p3q1n/3K4 w - - 0 1", "a6a8");
        keys(1, 1, 3, "4r2k/5Q2/8/r3n3/4qQ2/3b4/1p3q2/3K4 w - - 0 1", "f4h6 f7e8");
    }

    private static void specialMoves() {
        keys(0, 0, 1, "2R1R3/8/8/8/8/3k4/8/R3K3 w Q - 0 1", "a1d1 e1c1");
        keys(0, 0, 1, "2R1R3/8/8/8/8/3k4/8/R3K3 w - - 0 1", "a1d1");
        keys(0, 0, 1, "4k3/6Q1/8/B2pP3/8/8/8/4R1K1 w - d6 0 1", "e5d6");
        keys(0, 0, 1, "4k3/6Q1/8/B2pP3/8/8/8/4R1K1 w - - 0 1", "");
        keys(0, 0, 1, "8/5KPk/8/8/8/8/8/6R1 w - - 0 1", "g1h1");
        keys(0, 0, 1, "8/8/8/2R5/8/2Nk4/8/R3KN2 w Q - 0 1", "e1c1");
        keys(0, 0, 1, "8/8/8/7p/2Q5/4pk2/7P/4K2R w K - 0 1", "e1g1");
        // Taking in passing opens the rank between rook and king.
        keys(0, 0, 1, "8/8/7p/R2pP2k/7p/8/8/K5R1 w - d6 0 1", "e5d6");
        keys(0, 0, 1, "8/8/7p/R2pP2k/7p/8/8/K5R1 w - - 0 1", "");
        // A pawn becomes the one man that does it.
        keys(0, 0, 1, "8/6PB/5KBk/8/8/8/8/8 w - - 0 1", "g7g8n");
        keys(0, 1, 1, "1R6/2P5/k7/8/1B6/P7/K7/8 w - - 0 1", "c7c8n");
        keys(0, 1, 1, "8/5P2/5kP1/3P2R1/8/5NK1/8/8 w - - 0 1", "f7f8b");
        keys(0, 1, 1, "8/kP6/8/1Q6/2P5/2P5/7P/7K w - - 0 1", "b7b8r");
    }

    private static void withoutMoves() {
        for (String text : new String[] {"7k/5Q2/8/6K1/8/8/8/8 b - - 0 1", "R5k1/5ppp/8/8/8/8/8/6K1 b - - 0 1"}) {
            MateProblems x = Check.at(text);
            for (int kind = 0; kind < 2; kind++) {
                for (int goal = 0; goal < 2; goal++) {
                    int k = kind;
                    int g = goal;
                    Check.due("keys", x.keys(kind, goal, 3), 0);
                    Check.due("least", x.least(kind, goal, 3), 0);
                    Check.thrown("refuted", IndexOutOfBoundsException.class, () -> x.refuted(k, g, 1, 0));
                }
            }
        }
    }

    private static void wrongProblems() {
        MateProblems x = Check.at(QUEEN);
        int[][] wrong = {{-1, 0, 1}, {2, 0, 1}, {0, -1, 1}, {0, 2, 1}, {0, 0, 0}, {0, 0, 4}, {1, 1, -1},
            {Integer.MIN_VALUE, 0, 1}, {0, Integer.MAX_VALUE, 1}, {1, 1, Integer.MAX_VALUE}, {1, 1, Integer.MIN_VALUE}};
        for (int[] w : wrong) {
            Check.thrown("keys", IllegalArgumentException.class, () -> x.keys(w[0], w[1], w[2]));
            Check.thrown("least", IllegalArgumentException.class, () -> x.least(w[0], w[1], w[2]));
            Check.thrown("refuted", IllegalArgumentException.class, () -> x.refuted(w[0], w[1], w[2], 0));
            Check.thrown("refuted, wrong twice", IllegalArgumentException.class, () -> x.refuted(w[0], w[1], w[2], -1));
        }
        for (int k : new int[] {-1, x.moves(), Integer.MIN_VALUE, Integer.MAX_VALUE}) {
            Check.thrown("refuted " + k, IndexOutOfBoundsException.class, () -> x.refuted(0, 0, 1, k));
        }
    }

    private static void noKeys(String what, MateProblems x) {
        Check.thrown("no keys behind " + what, IndexOutOfBoundsException.class, () -> x.key(0));
    }

    private static void whichKeys() {
        MateProblems x = Check.at(QUEEN);
        noKeys("load", x);
        Check.due("keys", Check.keys(x, 0, 0, 1), "g6g7");
        Check.thrown("key -1", IndexOutOfBoundsException.class, () -> x.key(-1));
        Check.thrown("key least", IndexOutOfBoundsException.class, () -> x.key(Integer.MIN_VALUE));
        Check.thrown("key greatest", IndexOutOfBoundsException.class, () -> x.key(Integer.MAX_VALUE));
        // Calls that do not change the position leave the keys.
        x.least(0, 1, 2);
        x.refuted(0, 1, 2, 3);
        x.lines(0, 1);
        x.moves();
        x.move(0);
        x.beaten();
        x.type(65, 1);
        x.cut(0);
        Check.thrown("keys", IllegalArgumentException.class, () -> x.keys(0, 1, 4));
        Check.thrown("play", IllegalArgumentException.class, () -> x.play(0));
        Check.thrown("back", IllegalStateException.class, x::back);
        Check.due("load", x.load(), 1);
        Check.due("the key is still there", Check.written(x.key(0)), "g6g7");
        // The latest problem counts, even if it has no key.
        x.keys(0, 1, 1);
        Check.due("another problem", Check.written(x.key(0)), "f6e5");
        x.keys(1, 0, 1);
        noKeys("a problem without keys", x);
        x.keys(0, 0, 1);
        Check.play(x, "g6g7");
        noKeys("play", x);
        x.back();
        noKeys("play and back", x);
        Check.play(x, "g6g5");
        Check.due("keys of black", x.keys(0, 0, 1), 0);
        x.back();
        x.keys(0, 0, 1);
        Check.due("load", Check.loading(x, QUEEN), 0);
        noKeys("load of the same position", x);
        MateProblems y = new MateProblems();
        Check.play(y, "f2f3 e7e5 g2g4");
        Check.due("keys of black", Check.keys(y, 0, 0, 1), "d8h4");
        y.back();
        noKeys("back", y);
    }

    private static void leastMoves() {
        least(0, 0, MORPHY, 2);
        least(0, 0, QUEEN, 1);
        least(0, 0, "8/8/8/7n/2k5/7p/3n4/K1b5 b - - 0 1", 3);
        least(0, 1, "6k1/2Q5/8/8/8/3N4/8/3K4 w - - 0 1", 2);
        least(0, 1, "1k6/7Q/8/8/8/5p2/8/6K1 w - - 0 1", 3);
        least(1, 0, "4r3/8/6Q1/Q7/8/b2p1Q2/1p3q1b/3K1k2 w - - 0 1", 1);
        least(1, 0, SELFMATE, 2);
        least(1, 1, "4r2k/8/4Q1Q1/8/8/8/1p3q2/3K4 w - - 0 1", 2);
        least(1, 1, "7k/5Q2/Rp4r1/6r1/8/8/1p3q1n/3K4 w - - 0 1", 3);
        least(0, 0, "8/8/8/8/8/4k3/8/4K3 w - - 0 1", 0);
    }

    private static void least(int kind, int goal, String text, int want) {
        MateProblems x = Check.at(text);
        for (int most = 1; most <= 3; most++) {
            Check.due("least " + kind + goal + most + " of " + text, x.least(kind, goal, most), most >= want ? want : 0);
        }
    }

    private static void refutation(int kind, int goal, int n, String text, String move, String want) {
        MateProblems x = Check.at(text);
        for (int k = 0; k < x.moves(); k++) {
            if (x.move(k) == Check.told(move)) {
                Check.due("refuted " + kind + goal + n + " " + move + " of " + text, Check.written(x.refuted(kind, goal, n, k)), want);
                return;
            }
        }
        Check.due(move + " is legal", false, true);
    }

    /** The first reply in order that refutes, not just one that does. */
    private static void refutations() {
        refutation(0, 0, 1, "rnbqkbnr/pppppppp/8/8/8/8/PPPPPPPP/RNBQKBNR w KQkq - 0 1", "e2e4", "a7a5");
        refutation(0, 0, 2, MORPHY, "a1a5", "a7a6");
        refutation(0, 0, 2, MORPHY, "b6a7", "b8h2");
        refutation(0, 0, 3, MORPHY, "a1a2", "a7a6");
        refutation(0, 0, 3, MORPHY, "a1h1", "a7a5");
        refutation(0, 0, 3, "8/8/8/7n/2k5/7p/3n4/K1b5 b - - 0 1", "d2b3", "a1b1");
        refutation(0, 0, 3, "8/8/8/7n/2k5/7p/3n4/K1b5 b - - 0 1", "c4b3", "-2");
        refutation(0, 1, 2, "6k1/2Q5/8/8/8/3N4/8/3K4 w - - 0 1", "c7c4", "g8g7");
        refutation(0, 1, 3, "1k6/7Q/8/8/8/5p2/8/6K1 w - - 0 1", "h7h1", "f3f2");
        refutation(0, 1, 3, "1k6/7Q/8/8/8/5p2/8/6K1 w - - 0 1", "h7h2", "b8a7");
        refutation(1, 0, 1, SELFMATE, "f7g8", "e8g8");
        refutation(1, 0, 2, SELFMATE, "g6h5", "e3h6");
        refutation(1, 0, 2, SELFMATE, "f7h7", "-2");
        refutation(1, 1, 2, "4r2k/8/4Q1Q1/8/8/8/1p3q2/3K4 w - - 0 1", "g6b1", "f2e1");
        refutation(1, 1, 2, "4r2k/8/4Q1Q1/8/8/8/1p3q2/3K4 w - - 0 1", "e6e5", "f2f6");
        refutation(1, 1, 3, "7k/5Q2/Rp4r1/6r1/8/8/1p3q1n/3K4 w - - 0 1", "a6a1", "b2a1n");
    }

    private static void stuck() {
        // A stalemate instead of mate, and mate instead of stalemate.
        refutation(0, 0, 1, QUEEN, "g6f7", "-2");
        refutation(0, 0, 3, QUEEN, "g6f7", "-2");
        refutation(0, 1, 1, QUEEN, "g6g7", "-2");
        refutation(0, 1, 2, QUEEN, "g6g7", "-2");
        // In a self problem the other side must have a move.
        refutation(1, 0, 1, QUEEN, "g6f7", "-2");
        refutation(1, 0, 2, QUEEN, "g6g7", "-2");
        refutation(1, 1, 1, QUEEN, "g6f7", "-2");
        refutation(1, 1, 3, QUEEN, "g6g7", "-2");
        // Keys are refuted by nothing.
        refutation(0, 0, 1, QUEEN, "g6g7", "-1");
        refutation(0, 1, 1, QUEEN, "g6f7", "-1");
        refutation(0, 0, 2, MORPHY, "a1a6", "-1");
        refutation(1, 0, 2, SELFMATE, "f7g8", "-1");
    }
}
