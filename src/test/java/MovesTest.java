/** Promises 1 and 5 to 9: the first position, legal moves, play, back and beaten. */
final class MovesTest {
    private static final String KIWI = "r3k2r/p1ppqpb1/bn2pnp1/3PN3/1p2P3/2N2Q1p/PPPBBPPP/R3K2R w KQkq - 0 1";

    public static void main(String[] args) {
        firstPosition();
        counts();
        castling();
        lostRights();
        passing();
        becoming();
        pins();
        playing();
        goingBack();
        beatenSides();
        manyQueens();
        Check.end();
    }

    private static void firstPosition() {
        MateProblems x = new MateProblems();
        Check.due("moves", x.moves(), 20);
        Check.due("the moves", Check.legal(x), "b1a3 b1c3 g1f3 g1h3 a2a3 a2a4 b2b3 b2b4 c2c3 c2c4 d2d3 d2d4 "
                + "e2e3 e2e4 f2f3 f2f4 g2g3 g2g4 h2h3 h2h4");
        Check.thrown("move -1", IndexOutOfBoundsException.class, () -> x.move(-1));
        Check.thrown("move 20", IndexOutOfBoundsException.class, () -> x.move(20));
        Check.thrown("move least", IndexOutOfBoundsException.class, () -> x.move(Integer.MIN_VALUE));
        Check.thrown("move greatest", IndexOutOfBoundsException.class, () -> x.move(Integer.MAX_VALUE));
        Check.thrown("back", IllegalStateException.class, x::back);
        Check.thrown("key", IndexOutOfBoundsException.class, () -> x.key(0));
        Check.due("beaten", x.beaten(), 0);
        Check.due("the text is empty", x.cut(1), false);
        Check.due("load of nothing", x.load(), 1);
        Check.play(x, "g1f3 g8f6 g2g3 g7g6 f1g2 f8g7");
        Check.due("both sides have the rights", Check.legalFrom(x, "e1"), "e1f1 e1g1");
        Check.play(x, "e1g1");
        Check.due("both sides have the rights", Check.legalFrom(x, "e8"), "e8f8 e8g8");
    }

    /** Known counts of all ways to make three moves one behind the other. */
    private static void counts() {
        count("rnbqkbnr/pppppppp/8/8/8/8/PPPPPPPP/RNBQKBNR w KQkq - 0 1", 20, 400, 8902);
        count(KIWI, 48, 2039, 97862);
        count("8/2p5/3p4/KP5r/1R3p1k/8/4P1P1/8 w - - 0 1", 14, 191, 2812);
        count("r3k2r/Pppp1ppp/1b3nbN/nP6/BBP1P3/q4N2/Pp1P2PP/R2Q1RK1 w kq - 0 1", 6, 264, 9467);
        count("r2q1rk1/pP1p2pp/Q4n2/bbp1p3/Np6/1B3NBn/pPPP1PPP/R3K2R b KQ - 0 1", 6, 264, 9467);
        count("rnbq1k1r/pp1Pbppp/2p5/8/2B5/8/PPP1NnPP/RNBQK2R w KQ - 1 8", 44, 1486, 62379);
        count("r4rk1/1pp1qppp/p1np1n2/2b1p1B1/2B1P1b1/P1NP1N2/1PP1QPPP/R4RK1 w - - 0 10", 46, 2079, 89890);
    }

    private static void count(String text, int one, int two, int three) {
        int first = Check.at(text).moves();
        int second = 0;
        int third = 0;
        for (int k = 0; k < first; k++) {
            MateProblems x = Check.at(text);
            x.play(x.move(k));
            int replies = x.moves();
            second += replies;
            for (int r = 0; r < replies; r++) {
                x.play(x.move(r));
                third += x.moves();
                x.back();
            }
        }
        Check.due(text + " one move", first, one);
        Check.due(text + " two moves", second, two);
        Check.due(text + " three moves", third, three);
    }

    private static void kingMoves(String text, String king, String want) {
        Check.due(text, Check.legalFrom(Check.at(text), king), want);
    }

    private static void castling() {
        kingMoves("r3k2r/8/8/8/8/8/8/R3K2R w KQkq - 0 1", "e1", "e1c1 e1d1 e1f1 e1g1 e1d2 e1e2 e1f2");
        kingMoves("r3k2r/8/8/8/8/8/8/R3K2R w Kkq - 0 1", "e1", "e1d1 e1f1 e1g1 e1d2 e1e2 e1f2");
        kingMoves("r3k2r/8/8/8/8/8/8/R3K2R w Qkq - 0 1", "e1", "e1c1 e1d1 e1f1 e1d2 e1e2 e1f2");
        kingMoves("r3k2r/8/8/8/8/8/8/R3K2R w - - 0 1", "e1", "e1d1 e1f1 e1d2 e1e2 e1f2");
        kingMoves("r3k2r/8/8/8/8/8/8/R3K2R b KQkq - 0 1", "e8", "e8d7 e8e7 e8f7 e8c8 e8d8 e8f8 e8g8");
        kingMoves("r3k2r/8/8/8/8/8/8/R3K2R b KQk - 0 1", "e8", "e8d7 e8e7 e8f7 e8d8 e8f8 e8g8");
        kingMoves("r3k2r/8/8/8/8/8/8/R3K2R b KQq - 0 1", "e8", "e8d7 e8e7 e8f7 e8c8 e8d8 e8f8");
        // In check; over an attacked square; to an attacked square.
        kingMoves("4k3/4r3/8/8/8/8/8/R3K2R w KQ - 0 1", "e1", "e1d1 e1f1 e1d2 e1f2");
        kingMoves("4k3/5r2/8/8/8/8/8/R3K2R w KQ - 0 1", "e1", "e1c1 e1d1 e1d2 e1e2");
        kingMoves("4k3/3r4/8/8/8/8/8/R3K2R w KQ - 0 1", "e1", "e1f1 e1g1 e1e2 e1f2");
        kingMoves("4k3/6r1/8/8/8/8/8/R3K2R w KQ - 0 1", "e1", "e1c1 e1d1 e1f1 e1d2 e1e2 e1f2");
        kingMoves("4k3/2r5/8/8/8/8/8/R3K2R w KQ - 0 1", "e1", "e1d1 e1f1 e1g1 e1d2 e1e2 e1f2");
        // Squares that only the rook passes may be attacked; all squares between must be empty.
        kingMoves("4k3/1r6/8/8/8/8/8/R3K2R w KQ - 0 1", "e1", "e1c1 e1d1 e1f1 e1g1 e1d2 e1e2 e1f2");
        kingMoves("4k3/r6r/8/8/8/8/8/R3K2R w KQ - 0 1", "e1", "e1c1 e1d1 e1f1 e1g1 e1d2 e1e2 e1f2");
        kingMoves("4k3/8/8/8/8/8/8/RN2K1NR w KQ - 0 1", "e1", "e1d1 e1f1 e1d2 e1e2 e1f2");
        kingMoves("4k3/8/8/8/8/8/8/R1b1Kb1R w KQ - 0 1", "e1", "e1d1 e1f1 e1f2");
        kingMoves("r1B1kN1r/8/8/8/8/8/8/4K3 b kq - 0 1", "e8", "e8e7 e8f7 e8d8 e8f8");
        // A pawn attacks the passed square too.
        kingMoves("4k3/8/8/8/8/8/6p1/R3K2R w KQ - 0 1", "e1", "e1c1 e1d1 e1d2 e1e2 e1f2");

        MateProblems x = Check.at("r3k2r/8/8/8/8/8/8/R3K2R w KQkq - 0 1");
        Check.play(x, "e1c1");
        Check.due("the rook came to d1", Check.legalFrom(x, "e8"), "e8e7 e8f7 e8f8 e8g8");
        Check.play(x, "e8g8");
        Check.due("the rook", Check.legalFrom(x, "a1"), "");
        Check.due("the rook", Check.legalFrom(x, "d1"), "d1e1 d1f1 d1g1 d1d2 d1d3 d1d4 d1d5 d1d6 d1d7 d1d8");
        x.back();
        x.back();
        Check.due("as before", Check.legalFrom(x, "a1"), "a1b1 a1c1 a1d1 a1a2 a1a3 a1a4 a1a5 a1a6 a1a7 a1a8");
        kingMoves("r3k2r/8/8/8/8/8/8/R3K2R w KQkq - 0 1", "e1", Check.legalFrom(x, "e1"));
    }

    private static void lostRights() {
        MateProblems x = Check.at("r3k2r/8/8/8/8/8/8/R3K2R w KQkq - 0 1");
        Check.play(x, "e1e2 e8e7 e2e1 e7e8");
        Check.due("the king moved", Check.legalFrom(x, "e1"), "e1d1 e1f1 e1d2 e1e2 e1f2");
        Check.play(x, "e1d1");
        Check.due("the other one too", Check.legalFrom(x, "e8"), "e8d7 e8e7 e8f7 e8d8 e8f8");
        x = Check.at("r3k2r/8/8/8/8/8/8/R3K2R w KQkq - 0 1");
        Check.play(x, "a1b1 h8g8 b1a1 g8h8");
        Check.due("the long rook moved", Check.legalFrom(x, "e1"), "e1d1 e1f1 e1g1 e1d2 e1e2 e1f2");
        Check.play(x, "h1h2");
        Check.due("the short rook moved", Check.legalFrom(x, "e8"), "e8d7 e8e7 e8f7 e8c8 e8d8 e8f8");
        x.back();
        x.back();
        x.back();
        x.back();
        Check.due("rights come back", Check.legalFrom(x, "e8"), "e8d7 e8e7 e8f7 e8c8 e8d8 e8f8 e8g8");
        x = Check.at("r3k2r/8/8/8/8/8/8/R3K2R w KQkq - 0 1");
        Check.play(x, "h1h2 a8b8");
        Check.due("the short rook is away", Check.legalFrom(x, "e1"), "e1c1 e1d1 e1f1 e1d2 e1e2 e1f2");
        Check.play(x, "e1d1");
        Check.due("the long rook is away", Check.legalFrom(x, "e8"), "e8d7 e8e7 e8f7 e8d8 e8f8 e8g8");
        // A rook is taken on its first square.
        x = Check.at("r3k3/8/8/8/8/6n1/8/R3K2R b KQq - 0 1");
        Check.play(x, "g3h1");
        Check.due("no short castling", Check.legalFrom(x, "e1"), "e1c1 e1d1 e1f1 e1d2 e1e2");
        x = Check.at("4k2r/8/8/8/8/8/8/R3K2R w KQk - 0 1");
        Check.play(x, "h1h8");
        Check.due("both lost theirs", Check.legalFrom(x, "e8"), "e8d7 e8e7 e8f7");
        x = Check.at("r3k3/1P6/8/8/8/8/8/4K3 w q - 0 1");
        Check.play(x, "b7a8r");
        Check.due("a pawn took it", Check.legalFrom(x, "e8"), "e8d7 e8e7 e8f7");
        x = Check.at("r3k3/8/1N6/8/8/8/8/4K3 w q - 0 1");
        Check.play(x, "b6a8");
        Check.due("no long castling", Check.legalFrom(x, "e8"), "e8d7 e8e7 e8f7 e8d8 e8f8");
        // The right is gone though a rook stands there again.
        x = Check.at("r3k3/r7/1N6/8/8/8/8/4K3 w q - 0 1");
        Check.play(x, "b6a8 a7a8 e1e2");
        Check.due("another rook came", Check.legalFrom(x, "e8"), "e8d7 e8e7 e8f7 e8d8 e8f8");
    }

    private static void passing() {
        MateProblems x = Check.at("4k3/3p4/8/4P3/8/8/8/4K3 b - - 0 1");
        Check.play(x, "d7d5");
        Check.due("it takes in passing", Check.legalFrom(x, "e5"), "e5d6 e5e6");
        Check.play(x, "e5d6");
        Check.due("the pawn is gone", Check.legal(x), "e8d7 e8f7 e8d8 e8f8");
        x.back();
        Check.play(x, "e1e2 e8e7");
        Check.due("only at once", Check.legalFrom(x, "e5"), "e5e6");
        x = Check.at("4k3/3p4/8/4P3/8/8/8/4K3 b - - 0 1");
        Check.play(x, "d7d6 e1e2 d6d5");
        Check.due("not behind two single steps", Check.legalFrom(x, "e5"), "e5e6");
        x = Check.at("4k3/8/8/8/pP6/8/8/4K3 b - b3 0 1");
        Check.due("black takes in passing", Check.legalFrom(x, "a4"), "a4a3 a4b3");
        x = Check.at("4k3/8/8/8/pP6/8/8/4K3 b - - 0 1");
        Check.due("not without the passed square", Check.legalFrom(x, "a4"), "a4a3");
        // Both pawns leave the rank between king and rook.
        x = Check.at("4k3/8/8/K2pP2r/8/8/8/8 w - d6 0 1");
        Check.due("the king would be in check", Check.legalFrom(x, "e5"), "e5e6");
        // The pawn that gives check is taken in passing.
        x = Check.at("4k3/8/8/3pP3/4K3/8/8/8 w - d6 0 1");
        Check.due("out of check", Check.legalFrom(x, "e5"), "e5d6");
        // Other men go to the passed square without taking.
        x = Check.at("4k3/8/R7/3pP3/8/8/8/4K3 w - d6 0 1");
        Check.play(x, "a6d6");
        Check.due("the rook did not take", Check.legalFrom(x, "d5"), "d5d4");
        // Two steps only from the first rank, over an empty square, to an empty one.
        x = Check.at("4k3/8/8/8/8/p2P4/P1P5/4K3 w - - 0 1");
        Check.due("pawns", Check.legalFrom(x, "a2") + "," + Check.legalFrom(x, "c2") + "," + Check.legalFrom(x, "d3"), ",c2c3 c2c4,d3d4");
        x = Check.at("4k3/8/8/8/p7/8/P7/4K3 w - - 0 1");
        Check.due("to an empty square", Check.legalFrom(x, "a2"), "a2a3");
    }

    private static void becoming() {
        MateProblems x = Check.at("1n2k3/P7/8/8/8/8/p7/1N2K3 w - - 0 1");
        Check.due("white", Check.legalFrom(x, "a7"), "a7a8n a7a8b a7a8r a7a8q a7b8n a7b8b a7b8r a7b8q");
        Check.thrown("it must become something", IllegalArgumentException.class, () -> x.play(Check.told("a7a8")));
        Check.thrown("not a king", IllegalArgumentException.class, () -> x.play(Check.told("a7a8") + 6 * 4096));
        Check.play(x, "a7b8n");
        Check.due("black", Check.legalFrom(x, "a2"), "a2a1n a2a1b a2a1r a2a1q a2b1n a2b1b a2b1r a2b1q");
        Check.play(x, "a2a1b");
        Check.due("a white knight", Check.legalFrom(x, "b8"), "b8a6 b8c6 b8d7");
        Check.play(x, "b8a6");
        Check.due("a black bishop", Check.legalFrom(x, "a1"), "a1b2 a1c3 a1d4 a1e5 a1f6 a1g7 a1h8");
        x.back();
        x.back();
        Check.due("a pawn again", Check.legalFrom(x, "a2"), "a2a1n a2a1b a2a1r a2a1q a2b1n a2b1b a2b1r a2b1q");
        MateProblems y = Check.at("4k3/P7/8/8/8/8/p7/4K3 b - - 0 1");
        Check.play(y, "a2a1r");
        Check.due("check by a rook", Check.legal(y), "e1d2 e1e2 e1f2");
    }

    private static void pins() {
        MateProblems x = Check.at("4r2k/8/8/8/7b/8/4RN2/4K3 w - - 0 1");
        Check.due("a pinned rook", Check.legalFrom(x, "e2"), "e2e3 e2e4 e2e5 e2e6 e2e7 e2e8");
        Check.due("a pinned knight", Check.legalFrom(x, "f2"), "");
        Check.due("not next to a king", Check.legal(Check.at("8/8/8/8/8/3k4/8/3K4 w - - 0 1")), "d1c1 d1e1");
        Check.due("along the line", Check.legal(Check.at("7k/8/8/8/8/8/8/r3K3 w - - 0 1")), "e1d2 e1e2 e1f2");
        Check.due("from two at once", Check.legal(Check.at("4r2k/8/8/8/8/5n2/8/3QKB2 w - - 0 1")), "e1f2");
    }

    private static void playing() {
        MateProblems x = new MateProblems();
        for (int move : new int[] {0, -1, Integer.MIN_VALUE, Integer.MAX_VALUE, Check.told("e2e5"), Check.told("e7e5"),
                Check.told("e2e4") + 4096 * 5, Check.told("e2e4") + 4096 * 16, Check.told("e2e4") - 65536}) {
            Check.thrown("play " + move, IllegalArgumentException.class, () -> x.play(move));
        }
        String[] moves = {"g1f3", "g8f6", "f3g1", "f6g8", "g1f3", "g8f6", "f3g1", "f6g8"};
        for (int i = 0; i < 8; i++) {
            Check.due("play", x.play(Check.told(moves[i])), i + 1);
        }
        Check.thrown("a ninth", UnsupportedOperationException.class, () -> x.play(Check.told("e2e4")));
        Check.thrown("a ninth that is not legal", IllegalArgumentException.class, () -> x.play(Check.told("e2e5")));
        Check.due("moves are still there", x.moves(), 20);
        Check.due("back", x.back(), 7);
        Check.due("play", x.play(Check.told("a7a5")), 8);
        Check.due("back", x.back(), 7);
        Check.due("load", Check.loading(x, KIWI), 0);
        Check.due("counted from load on", x.play(Check.told("e1g1")), 1);
        Check.due("back", x.back(), 0);
    }

    private static void goingBack() {
        for (int k = 0; k < 48; k++) {
            MateProblems x = Check.at(KIWI);
            String before = Check.legal(x);
            x.play(x.move(k));
            Check.due("back", x.back(), 0);
            Check.due("as before", Check.legal(x), before);
        }
        MateProblems y = new MateProblems();
        Check.thrown("back", IllegalStateException.class, y::back);
        Check.play(y, "e2e4 e7e5");
        Check.due("back", y.back(), 1);
        Check.due("back", y.back(), 0);
        Check.thrown("back", IllegalStateException.class, y::back);
        Check.due("moves", y.moves(), 20);
        // The passed square comes back.
        MateProblems z = Check.at("4k3/8/8/3pP3/8/8/8/4K3 w - d6 0 1");
        Check.play(z, "e1e2");
        z.back();
        Check.due("passing", Check.legalFrom(z, "e5"), "e5d6 e5e6");
        Check.play(z, "e5d6");
        z.back();
        Check.due("passing", Check.legalFrom(z, "e5"), "e5d6 e5e6");
    }

    private static void beatenSides() {
        MateProblems x = new MateProblems();
        Check.play(x, "f2f3 e7e5 g2g4 d8h4");
        Check.due("mate", x.beaten(), 1);
        Check.due("no moves", x.moves(), 0);
        Check.thrown("no move 0", IndexOutOfBoundsException.class, () -> x.move(0));
        Check.thrown("no move to play", IllegalArgumentException.class, () -> x.play(Check.told("e2e4")));
        Check.due("stalemate", Check.at("7k/5Q2/8/6K1/8/8/8/8 b - - 0 1").beaten(), 2);
        Check.due("check alone", Check.at("7k/8/8/6K1/8/8/8/7R b - - 0 1").beaten(), 0);
        Check.due("black is mated", Check.at("R5k1/5ppp/8/8/8/8/8/6K1 b - - 0 1").beaten(), 1);
        Check.due("two kings", Check.at("7k/8/8/6K1/8/8/8/8 b - - 100 1").beaten(), 0);
    }

    /** Far more moves than a game ever has. */
    private static void manyQueens() {
        MateProblems x = Check.at("R6R/3Q4/1Q4Q1/4Q3/2Q4Q/Q4Q2/pp1Q4/kBNN1KB1 w - - 0 1");
        Check.due("moves", x.moves(), 218);
    }
}
