import java.util.ArrayList;
import java.util.List;

/** Sentence by sentence: what the document says at the edges of moves and of promises 5 to 9. */
final class MoveEdgesTest {
    private static final String CASTLE = "r3k2r/8/8/8/8/8/8/R3K2R";
    private static final String[] SHUFFLE = {"g1f3", "g8f6", "f3g1", "f6g8", "g1f3", "g8f6", "f3g1", "f6g8"};

    public static void main(String[] args) {
        corners();
        roundTheEdge();
        pawnRanks();
        attackedByOneMan();
        attackedBehindAnother();
        movesOfOneMan();
        attackedWhateverIsThere();
        attackedWhateverComes();
        pawnAttacks();
        nextSquares();
        overEmptySquares();
        notOntoOwnMen();
        pawnSteps();
        pawnTakes();
        inPassing();
        becoming();
        castlingRights();
        castlingBetween();
        castlingAttacked();
        castlingRook();
        castlingSweep();
        legal();
        rightsLost();
        rightsStay();
        passedBehind();
        told();
        inOrder();
        howMany();
        moveK();
        playCounts();
        playRefused();
        playEight();
        backCounts();
        backRestores();
        backRefused();
        beaten();
        beatenByThatAlone();
        Check.end();
    }

    private static void moves(String text, String from, String want) {
        Check.due(text + " from " + from, Check.legalFrom(Check.at(text + " 0 1"), from), want);
    }

    // Terms: squares and what is attacked.

    private static void corners() {
        Check.says("SQUARES are 0 .. 63: file (0 .. 7 for a .. h) + 8 * rank (0 .. 7 for 1 .. 8).");
        moves("8/8/8/8/3k4/8/8/K7 w - -", "a1", "a1b1 a1a2 a1b2");
        moves("8/8/8/3k4/8/8/8/7K w - -", "h1", "h1g1 h1g2 h1h2");
        moves("K7/8/8/8/3k4/8/8/8 w - -", "a8", "a8a7 a8b7 a8b8");
        moves("7K/8/8/8/3k4/8/8/8 w - -", "h8", "h8g7 h8h7 h8g8");
        moves("8/8/3k4/8/8/3K4/8/N6N w - -", "a1", "a1c2 a1b3");
        moves("8/8/3k4/8/8/3K4/8/N6N w - -", "h1", "h1f2 h1g3");
        moves("N6N/8/8/3k4/8/3K4/8/8 w - -", "a8", "a8b6 a8c7");
        moves("N6N/8/8/3k4/8/3K4/8/8 w - -", "h8", "h8g6 h8f7");
        MateProblems x = Check.at("7R/8/8/8/8/k7/8/7K w - - 0 1");
        Check.due("h8 is 63, a8 is 56", Check.place(x, "h8a8") >= 0 && x.move(Check.place(x, "h8a8")) == 63 + 64 * 56, true);
    }

    private static void roundTheEdge() {
        Check.says("along diagonals, files and ranks: nothing goes round the edge of the board");
        moves("3k4/8/8/8/R7/8/8/3K4 w - -", "a4", "a4a1 a4a2 a4a3 a4b4 a4c4 a4d4 a4e4 a4f4 a4g4 a4h4 a4a5 a4a6 a4a7 a4a8");
        moves("3k4/8/8/8/7R/8/8/3K4 w - -", "h4", "h4h1 h4h2 h4h3 h4a4 h4b4 h4c4 h4d4 h4e4 h4f4 h4g4 h4h5 h4h6 h4h7 h4h8");
        moves("3k4/8/8/8/B7/8/8/4K3 b - -", "d8", "d8c7 d8e7 d8c8");
        moves("4k3/8/8/B7/8/8/8/4K3 w - -", "a5", "a5d2 a5c3 a5b4 a5b6 a5c7 a5d8");
        moves("4k3/8/8/8/7B/8/8/4K3 w - -", "h4", "h4f2 h4g3 h4g5 h4f6 h4e7 h4d8");
        moves("4k3/8/8/8/7Q/8/8/4K3 w - -", "h4", "h4h1 h4f2 h4h2 h4g3 h4h3 h4a4 h4b4 h4c4 h4d4 h4e4 h4f4 h4g4 h4g5 h4h5 h4f6 h4h6 "
                + "h4e7 h4h7 h4d8 h4h8");
        moves("4k3/8/8/8/N6N/8/8/4K3 w - -", "a4", "a4b2 a4c3 a4c5 a4b6");
        moves("4k3/8/8/8/N6N/8/8/4K3 w - -", "h4", "h4g2 h4f3 h4f5 h4g6");
        moves("4k3/8/8/8/6N1/8/8/4K3 w - -", "g4", "g4f2 g4h2 g4e3 g4e5 g4f6 g4h6");
        moves("4k3/8/8/8/1N6/8/8/4K3 w - -", "b4", "b4a2 b4c2 b4d3 b4d5 b4a6 b4c6");
        moves("4k3/8/8/8/K7/8/8/8 w - -", "a4", "a4a3 a4b3 a4b4 a4a5 a4b5");
        moves("4k3/8/8/8/7K/8/8/8 w - -", "h4", "h4g3 h4h3 h4g4 h4g5 h4h5");
        moves("4k3/8/8/n6n/P6P/n6n/8/4K3 w - -", "a4", "");
        moves("4k3/8/8/n6n/P6P/n6n/8/4K3 w - -", "h4", "");
        moves("4k3/8/N6N/p6p/N6N/N7/8/4K3 b - -", "a5", "");
        moves("4k3/8/N6N/p6p/N6N/N7/8/4K3 b - -", "h5", "");
        moves("7k/8/8/8/R7/7K/8/8 b - -", "h8", "h8g7 h8h7 h8g8");
        // Squares beyond the edge are not attacked either.
        moves("8/8/8/8/8/K6r/8/1k6 w - -", "a3", "a3a4 a3b4");
        moves("8/8/8/6n1/K6n/6n1/8/1k6 w - -", "a4", "a4a3 a4b3 a4b4 a4a5 a4b5");
        moves("8/8/7p/7p/K6p/7p/8/2k5 w - -", "a4", "a4a3 a4b3 a4b4 a4a5 a4b5");
        moves("8/8/7k/K7/8/8/8/8 w - -", "a5", "a5a4 a5b4 a5b5 a5a6 a5b6");
        moves("8/8/K7/7k/8/8/8/8 b - -", "h5", "h5g4 h5h4 h5g5 h5g6 h5h6");
    }

    private static void pawnRanks() {
        Check.says("White pawns go up the ranks, from rank 1 (the second), black ones down, from rank 6.");
        for (int file = 0; file < 8; file++) {
            for (int rank = 1; rank < 7; rank++) {
                pawnSteps(file, rank, 0);
                pawnSteps(file, rank, 1);
            }
        }
    }

    private static void pawnSteps(int file, int rank, int side) {
        char[] board = ".".repeat(64).toCharArray();
        int aside = file < 4 ? 7 : 0;
        board[aside] = 'K';
        board[56 + aside] = 'k';
        int from = file + 8 * rank;
        board[from] = side == 0 ? 'P' : 'p';
        int up = side == 0 ? 8 : -8;
        List<String> want = new ArrayList<>();
        if (rank == (side == 0 ? 6 : 1)) {
            for (int m = 2; m <= 5; m++) {
                want.add(Check.written(from + 64 * (from + up) + 4096 * m));
            }
        } else {
            want.add(Check.written(from + 64 * (from + up)));
            if (rank == (side == 0 ? 1 : 6)) {
                want.add(side == 0 ? want.size() : 0, Check.written(from + 64 * (from + 2 * up)));
            }
        }
        moves(Check.men(board) + (side == 0 ? " w - -" : " b - -"), Check.written(from).substring(0, 2), String.join(" ", want));
    }

    private static void attackedByOneMan() {
        Check.says("A square is ATTACKED by a side, if a man of it could take there by its way of moving");
        for (char man : "PNBRQKpnbrqk".toCharArray()) {
            for (int from = 0; from < 64; from++) {
                for (int to = 0; to < 64; to++) {
                    attacks(man, from, to);
                }
            }
        }
    }

    /** With the man's side to move a king that he attacks is fault 4. */
    private static void attacks(char man, int from, int king) {
        boolean white = Character.isUpperCase(man);
        boolean end = from / 8 == 0 || from / 8 == 7;
        if (from == king || end && (man == 'P' || man == 'p')) {
            return;
        }
        char[] board = ".".repeat(64).toCharArray();
        board[from] = man;
        board[king] = white ? 'k' : 'K';
        if (man != 'K' && man != 'k') {
            board[aside(from, king)] = white ? 'K' : 'k';
        }
        String text = Check.men(board) + (white ? " w - - 0 1" : " b - - 0 1");
        Check.due(text, Check.loading(new MateProblems(), text), canTake(man, from, king) ? 4 : 0);
    }

    private static boolean canTake(char man, int from, int to) {
        int files = Math.abs(to % 8 - from % 8);
        int ranks = to / 8 - from / 8;
        int high = Math.abs(ranks);
        switch (man) {
            case 'P': return files == 1 && ranks == 1;
            case 'p': return files == 1 && ranks == -1;
            case 'N': case 'n': return files * high == 2;
            case 'B': case 'b': return files == high;
            case 'R': case 'r': return files == 0 || high == 0;
            case 'Q': case 'q': return files == high || files == 0 || high == 0;
            default: return files <= 1 && high <= 1;
        }
    }

    /** A square for another king: not beside that one, and not between the two squares. */
    private static int aside(int from, int king) {
        for (int square = 0; square < 64; square++) {
            boolean beside = Math.abs(square % 8 - king % 8) <= 1 && Math.abs(square / 8 - king / 8) <= 1;
            boolean onLine = canTake('Q', from, square) && canTake('Q', square, king);
            if (square != from && !beside && !onLine) {
                return square;
            }
        }
        return -1;
    }

    private static void attackedBehindAnother() {
        Check.says("along diagonals, files and ranks, or both, over empty squares: not over a man of either side");
        for (char man : "BRQbrq".toCharArray()) {
            for (int from = 0; from < 64; from++) {
                for (int king = 0; king < 64; king++) {
                    int files = Integer.signum(king % 8 - from % 8);
                    int ranks = Integer.signum(king / 8 - from / 8);
                    for (int at = from + files + 8 * ranks; from != king && canTake(man, from, king) && at != king; at += files + 8 * ranks) {
                        shut(man, from, king, at);
                    }
                }
            }
        }
    }

    private static void shut(char man, int from, int king, int at) {
        boolean white = Character.isUpperCase(man);
        for (char other : new char[] {white ? 'n' : 'N', white ? 'N' : 'n'}) {
            char[] board = ".".repeat(64).toCharArray();
            board[from] = man;
            board[king] = white ? 'k' : 'K';
            board[aside(from, king)] = white ? 'K' : 'k';
            board[at] = other;
            String text = Check.men(board) + (white ? " w - - 0 1" : " b - - 0 1");
            Check.due(text, Check.loading(new MateProblems(), text), 0);
        }
    }

    private static void movesOfOneMan() {
        Check.says("a man goes as it attacks, to a square that is empty or has a man of the other side");
        for (char man : "PNBRQpnbrq".toCharArray()) {
            for (int from = 0; from < 64; from++) {
                for (int kings = 0; kings < 64; kings += 9) {
                    char[] board = ".".repeat(64).toCharArray();
                    board[kings] = 'K';
                    board[(kings + 28) % 64] = 'k';
                    board[(kings + 13) % 64] = 'n';
                    board[(kings + 41) % 64] = 'N';
                    board[from] = board[from] == '.' ? man : board[from];
                    sameMoves(Check.men(board) + " w - - 0 1");
                    sameMoves(Check.men(board) + " b - - 0 1");
                }
            }
        }
    }

    private static void attackedWhateverIsThere() {
        Check.says("A square is ATTACKED by a side, if a man of it could take there by its way of moving, whatever is there");
        // A king may not take a man that another one covers, whichever that is.
        String[] covering = {"8/8/8/8/8/2p5/1r6/K6k", "8/8/8/8/2n5/8/1r6/K6k", "8/8/8/8/3b4/8/1r6/K6k", "8/1r6/8/8/8/8/1r6/K6k",
            "8/8/8/8/8/8/1r5q/K6k", "8/8/8/8/8/8/1rk5/K7", "8/8/8/8/8/1k6/1r6/K7", "8/8/8/8/8/2k5/1r6/K7"};
        for (String men : covering) {
            moves(men + " w - -", "a1", "");
        }
        moves("8/8/8/8/8/8/1r6/K6k w - -", "a1", "a1b2");
        moves("8/8/8/8/8/p7/1r6/K6k w - -", "a1", "");
        moves("8/8/8/8/8/1p6/1r6/K6k w - -", "a1", "a1b2");
    }

    private static void attackedWhateverComes() {
        Check.says("and whatever comes of its king");
        // The black man may not move, as his king would be in check, and attacks all the same.
        moves("3k4/3r4/8/8/8/8/4K3/3R4 w - -", "e2", "e2e1 e2f1 e2f2 e2e3 e2f3");
        moves("k7/8/2b5/8/8/5B2/8/K7 b - -", "c6", "c6f3 c6e4 c6d5 c6b7");
        moves("k7/1n6/8/8/3K4/5B2/8/8 w - -", "d4", "d4c3 d4d3 d4e3 d4c4 d4e4 d4d5 d4e5");
        moves("k7/1p6/8/1K6/4B3/8/8/8 w - -", "b5", "b5a4 b5b4 b5c4 b5a5 b5c5 b5b6");
    }

    private static void pawnAttacks() {
        Check.says("a pawn one step forwards and to one side");
        // Not straight ahead, not two steps, not backwards.
        moves("7k/8/8/3p4/8/3K4/8/8 w - -", "d3", "d3c2 d3d2 d3e2 d3c3 d3e3 d3d4");
        moves("7k/8/8/8/3p4/8/3K4/8 w - -", "d2", "d2c1 d2d1 d2e1 d2c2 d2e2 d2d3");
        moves("7k/8/3K4/8/3p4/8/8/8 w - -", "d6", "d6c5 d6d5 d6e5 d6c6 d6e6 d6c7 d6d7 d6e7");
        moves("7K/8/8/3k4/8/3P4/8/8 b - -", "d5", "d5d4 d5c5 d5e5 d5c6 d5d6 d5e6");
        moves("7K/8/8/3P4/8/3k4/8/8 b - -", "d3", "d3c2 d3d2 d3e2 d3c3 d3e3 d3c4 d3d4 d3e4");
        Check.due("check from the left", Check.at("8/8/8/8/8/2p5/3K4/7k w - - 0 1").moves(), 8);
        Check.due("check from the right", Check.at("8/8/8/8/8/4p3/3K4/7k w - - 0 1").moves(), 8);
    }

    private static void nextSquares() {
        Check.says("a king any next square");
        moves("8/8/8/3k4/8/3K4/8/8 w - -", "d3", "d3c2 d3d2 d3e2 d3c3 d3e3");
        moves("8/8/8/8/8/1k1K4/8/8 w - -", "d3", "d3d2 d3e2 d3e3 d3d4 d3e4");
        moves("8/8/8/1k6/8/3K4/8/8 w - -", "d3", "d3c2 d3d2 d3e2 d3c3 d3e3 d3d4 d3e4");
        moves("8/8/8/2k5/8/3K4/8/8 b - -", "c5", "c5b4 c5b5 c5d5 c5b6 c5c6 c5d6");
    }

    private static void overEmptySquares() {
        Check.says("a bishop, rook, queen along diagonals, files and ranks, or both, over empty squares");
        moves("7k/8/8/2p1P3/1p1R1P2/8/8/7K w - -", "d4", "d4d1 d4d2 d4d3 d4b4 d4c4 d4e4 d4d5 d4d6 d4d7 d4d8");
        moves("7k/8/1p3P2/8/3B4/2P5/5p2/7K w - -", "d4", "d4f2 d4e3 d4c5 d4e5 d4b6");
        moves("7k/8/3p1P2/8/1P1Q1p2/2p5/3P1P2/7K w - -", "d4", "d4c3 d4d3 d4e3 d4c4 d4e4 d4f4 d4c5 d4d5 d4e5 d4b6 d4d6 d4a7");
        // A man of either side stands between.
        Check.due("check", Check.at("4r2k/8/8/8/8/8/8/4K3 w - - 0 1").moves(), 4);
        Check.due("no check", Check.at("4r2k/8/4p3/8/8/8/8/4K3 w - - 0 1").moves(), 5);
        Check.due("no check, and a pawn", Check.at("4r2k/8/4P3/8/8/8/8/4K3 w - - 0 1").moves(), 6);
    }

    // Terms: moves.

    private static void notOntoOwnMen() {
        Check.says("to a square that is empty or has a man of the other side, which is taken");
        moves("7k/8/8/8/8/8/PP6/KN6 w - -", "a1", "");
        moves("7k/8/8/8/8/8/Pn6/Kn6 w - -", "a1", "a1b1 a1b2");
        MateProblems x = Check.at("7k/8/8/8/8/8/8/Kn6 w - - 0 1");
        Check.play(x, "a1b1");
        Check.due("it is taken", Check.legal(x), "h8g7 h8h7 h8g8");
        moves("7k/8/8/8/8/2P5/8/KN6 w - -", "b1", "b1d2 b1a3");
    }

    private static void pawnSteps() {
        Check.says("a pawn goes to an empty square one step forwards, or from its first rank two steps over an empty one");
        String[] white = {"8/8/n7", "8/8/N7", "8/n7/8", "8/N7/8"};
        String[] due = {"", "", "a2a3", "a2a3"};
        for (int i = 0; i < 4; i++) {
            moves("7k/8/8/" + white[i] + "/P7/7K w - -", "a2", due[i]);
        }
        String[] black = {"n7/8/8", "N7/8/8", "8/n7/8", "8/N7/8"};
        String[] dueBlack = {"", "", "a7a6", "a7a6"};
        for (int i = 0; i < 4; i++) {
            moves("7k/p7/" + black[i] + "/8/8/7K b - -", "a7", dueBlack[i]);
        }
        moves("7k/8/8/8/8/8/P7/7K w - -", "a2", "a2a3 a2a4");
        moves("7k/p7/8/8/8/8/8/7K b - -", "a7", "a7a5 a7a6");
        moves("7k/8/8/n7/8/8/P7/7K w - -", "a2", "a2a3 a2a4");
        moves("n6k/P7/8/8/8/8/8/7K w - -", "a7", "");
        moves("7k/8/8/8/8/8/p7/N6K b - -", "a2", "");
    }

    private static void pawnTakes() {
        Check.says("and where it attacks only if it takes there");
        moves("7k/8/8/2n1n3/3P4/8/8/7K w - -", "d4", "d4c5 d4d5 d4e5");
        moves("7k/8/8/2N1N3/3P4/8/8/7K w - -", "d4", "d4d5");
        moves("7k/8/8/8/3P4/8/8/7K w - -", "d4", "d4d5");
        moves("7k/8/8/2nnn3/3P4/2n1n3/8/7K w - -", "d4", "d4c5 d4e5");
        moves("7k/8/8/3p4/2N1N3/8/8/7K b - -", "d5", "d5c4 d5d4 d5e4");
        moves("7k/8/2N1N3/3p4/2NNN3/8/8/7K b - -", "d5", "d5c4 d5e4");
        moves("7k/8/8/3p4/8/8/8/7K b - -", "d5", "d5d4");
    }

    private static void inPassing() {
        Check.says("or if that is the passed square: then the pawn that is taken is that beside it which just passed");
        for (int file = 0; file < 8; file++) {
            for (int beside = file - 1; beside <= file + 1; beside += 2) {
                if (beside >= 0 && beside < 8) {
                    passing(file, beside, 0);
                    passing(file, beside, 1);
                }
            }
        }
        moves("7k/8/8/1PpP4/8/8/8/7K w - c6", "b5", "b5b6 b5c6");
        moves("7k/8/8/1PpP4/8/8/8/7K w - c6", "d5", "d5c6 d5d6");
        moves("7k/8/8/1PpP4/8/8/8/7K w - -", "b5", "b5b6");
        // Only pawns take so, and the right behind one move is gone behind the next.
        MateProblems x = Check.at("7k/8/8/1Pp5/8/4N3/8/7K w - c6 0 1");
        Check.play(x, "e3c4 h8g8");
        Check.due("the pawn is still there", Check.legalFrom(x, "b5"), "b5b6");
        MateProblems y = Check.at("7k/8/2B5/8/8/8/2p5/7K b - - 0 1");
        Check.due("nothing to pass", Check.legalFrom(y, "c2"), "c2c1n c2c1b c2c1r c2c1q");
    }

    /** A pawn passes with two steps beside another one, which takes it. */
    private static void passing(int file, int beside, int taker) {
        char[] board = ".".repeat(64).toCharArray();
        int aside = file < 4 ? 7 : 0;
        board[aside] = 'K';
        board[56 + aside] = 'k';
        int up = taker == 0 ? 8 : -8;
        int first = file + (taker == 0 ? 48 : 8);
        int target = first - up;
        int from = beside + (taker == 0 ? 32 : 24);
        board[first] = taker == 0 ? 'p' : 'P';
        board[from] = taker == 0 ? 'P' : 'p';
        MateProblems x = Check.at(Check.men(board) + (taker == 0 ? " b - - 0 1" : " w - - 0 1"));
        x.play(first + 64 * (first - 2 * up));
        int take = from + 64 * target;
        Check.due("it can be taken", Check.place(x, Check.written(take)) >= 0, true);
        x.play(take);
        int kingMoves = 3;
        Check.due("it is gone, the king is alone", x.moves(), kingMoves);
        x.back();
        x.play(from + 64 * (from + up));
        Check.due("it is there if it was not taken", x.moves(), kingMoves + 1);
        x.back();
        x.back();
        // One step is not passing, nor are two steps one behind the other.
        x.play(first + 64 * target);
        Check.due("it takes in the usual way", Check.place(x, Check.written(take)) >= 0, true);
        x.back();
        Check.due("nothing is made", x.moves(), kingMoves + 2);
    }

    private static void becoming() {
        Check.says("A pawn that comes to the last rank becomes a queen, rook, bishop or knight.");
        moves("1n5k/P7/8/8/8/8/8/7K w - -", "a7", "a7a8n a7a8b a7a8r a7a8q a7b8n a7b8b a7b8r a7b8q");
        moves("7k/8/8/8/8/8/p7/1N5K b - -", "a2", "a2a1n a2a1b a2a1r a2a1q a2b1n a2b1b a2b1r a2b1q");
        String[] names = {"n", "b", "r", "q"};
        String[] white = {"a8b6 a8c7", "a8h1 a8g2 a8f3 a8e4 a8d5 a8c6 a8b7", "a8a1 a8a2 a8a3 a8a4 a8a5 a8a6 a8a7 a8b8 a8c8 a8d8 a8e8 a8f8 a8g8 a8h8",
            "a8a1 a8h1 a8a2 a8g2 a8a3 a8f3 a8a4 a8e4 a8a5 a8d5 a8a6 a8c6 a8a7 a8b7 a8b8 a8c8 a8d8 a8e8 a8f8 a8g8 a8h8"};
        for (int i = 0; i < 4; i++) {
            MateProblems x = Check.at("8/P7/8/8/8/8/5k2/3K4 w - - 0 1");
            Check.play(x, "a7a8" + names[i] + " f2e3");
            Check.due("it became " + names[i], Check.legalFrom(x, "a8"), white[i]);
            Check.due("it is a pawn no more", Check.legalFrom(x, "a7"), "");
        }
        String[] black = {"a1c2 a1b3", "a1b2 a1c3 a1d4 a1e5 a1f6 a1g7 a1h8",
            "a1b1 a1c1 a1d1 a1e1 a1f1 a1g1 a1h1 a1a2 a1a3 a1a4 a1a5 a1a6 a1a7 a1a8",
            "a1b1 a1c1 a1d1 a1e1 a1f1 a1g1 a1h1 a1a2 a1b2 a1a3 a1c3 a1a4 a1d4 a1a5 a1e5 a1a6 a1f6 a1a7 a1g7 a1a8 a1h8"};
        for (int i = 0; i < 4; i++) {
            MateProblems x = Check.at("3k4/5K2/8/8/8/8/p7/8 b - - 0 1");
            Check.play(x, "a2a1" + names[i] + " f7e6");
            Check.due("it became black's " + names[i], Check.legalFrom(x, "a1"), black[i]);
            Check.due("it is a pawn no more", Check.legalFrom(x, "a2"), "");
        }
        // Other men stay what they are there, and other pawns too.
        moves("7k/R7/8/8/8/8/8/7K w - -", "a7", "a7a1 a7a2 a7a3 a7a4 a7a5 a7a6 a7b7 a7c7 a7d7 a7e7 a7f7 a7g7 a7h7 a7a8");
    }

    // Terms: castling.

    private static void castlingRights() {
        Check.says("CASTLING: with the right for it the king goes from its first square (e1, e8) two squares towards the rook");
        String[] ways = {"e1g1", "e1c1", "e8g8", "e8c8"};
        for (int set = 0; set < 16; set++) {
            StringBuilder rights = new StringBuilder();
            for (int i = 0; i < 4; i++) {
                rights.append((set >> i & 1) == 1 ? "KQkq".substring(i, i + 1) : "");
            }
            String field = set == 0 ? "-" : rights.toString();
            for (int i = 0; i < 4; i++) {
                MateProblems x = Check.at(CASTLE + (i < 2 ? " w " : " b ") + field + " - 0 1");
                Check.due(ways[i] + " with " + field, Check.place(x, ways[i]) >= 0, (set >> i & 1) == 1);
            }
        }
    }

    private static boolean castles(String text, String move) {
        return Check.place(Check.at(text + " - 0 1"), move) >= 0;
    }

    private static void castlingBetween() {
        Check.says("all squares between them must be empty");
        for (String man : new String[] {"N", "n", "B", "b"}) {
            String[] shut = {"R3K" + man + "1R", "R3K1" + man + "R", "R" + man + "2K2R", "R1" + man + "1K2R", "R2" + man + "K2R"};
            for (int i = 0; i < 5; i++) {
                boolean isShort = i < 2;
                String men = "2k5/8/8/8/8/8/8/" + shut[i];
                Check.due(men, castles(men + " w KQ", isShort ? "e1g1" : "e1c1"), false);
                String turned = shut[i].toLowerCase().replace(man.toLowerCase(), man) + "/8/8/8/8/8/8/2K5";
                Check.due(turned, castles(turned + " b kq", isShort ? "e8g8" : "e8c8"), false);
            }
        }
        Check.due("nothing between", castles(CASTLE + " w KQkq", "e1c1"), true);
        Check.due("beside it does not count", castles("7k/8/8/8/8/8/PPPPPPPP/R3K2R w KQ", "e1c1"), true);
    }

    private static void castlingAttacked() {
        Check.says("the king not in check, and the square that it passes not attacked");
        // A rook comes to each file in turn: on some of them it attacks what the king leaves, passes or reaches.
        for (int file = 0; file < 8; file++) {
            String rook = (file == 0 ? "" : "" + file) + "r" + (file == 7 ? "" : "" + (7 - file));
            boolean shortFree = file < 4 || file == 7;
            boolean longFree = file < 2 || file > 4;
            String men = "1k6/" + rook + "/8/8/8/8/8/R3K2R";
            Check.due(men + " short", castles(men + " w KQ", "e1g1"), shortFree);
            Check.due(men + " long", castles(men + " w KQ", "e1c1"), longFree);
            String turned = "r3k2r/8/8/8/8/8/" + rook.toUpperCase() + "/1K6";
            Check.due(turned + " short", castles(turned + " b kq", "e8g8"), shortFree);
            Check.due(turned + " long", castles(turned + " b kq", "e8c8"), longFree);
        }
        // f1 is attacked by each kind of man.
        for (String men : new String[] {"1k6/8/8/8/8/8/4p3/4K2R", "1k6/8/8/8/8/8/6p1/4K2R", "1k6/8/8/8/8/6n1/8/4K2R", "1k6/8/8/8/8/4n3/8/4K2R",
            "1k6/8/8/8/2b5/8/8/4K2R", "8/8/8/8/8/8/6k1/4K2R", "1k6/8/8/8/8/5q2/8/4K2R", "1k6/8/8/8/8/3q4/8/4K2R"}) {
            Check.due(men, castles(men + " w K", "e1g1"), false);
        }
    }

    private static void castlingRook() {
        Check.says("which comes to the square that the king passed");
        MateProblems x = Check.at(CASTLE + " w KQkq - 0 1");
        Check.play(x, "e1g1");
        Check.due("the corner is empty", Check.legalFrom(x, "h8"), "h8h1 h8h2 h8h3 h8h4 h8h5 h8h6 h8h7 h8f8 h8g8");
        Check.play(x, "e8c8");
        Check.due("white's rook", Check.legalFrom(x, "f1"), "f1b1 f1c1 f1d1 f1e1 f1f2 f1f3 f1f4 f1f5 f1f6 f1f7 f1f8");
        Check.due("white's king", Check.legalFrom(x, "g1"), "g1f2 g1g2");
        Check.play(x, "g1f2");
        Check.due("black's rook", Check.legalFrom(x, "d8"), "d8d1 d8d2 d8d3 d8d4 d8d5 d8d6 d8d7 d8e8 d8f8 d8g8");
        Check.due("black's corner", Check.legalFrom(x, "a8"), "");
        MateProblems y = Check.at(CASTLE + " b KQkq - 0 1");
        Check.play(y, "e8g8 e1c1");
        Check.due("black's rook", Check.legalFrom(y, "f8"), "f8f1 f8f2 f8f3 f8f4 f8f5 f8f6 f8f7 f8b8 f8c8 f8d8 f8e8");
        Check.play(y, "g8g7");
        Check.due("white's rook", Check.legalFrom(y, "d1"), "d1e1 d1f1 d1g1 d1d2 d1d3 d1d4 d1d5 d1d6 d1d7 d1d8");
        y.back();
        y.back();
        y.back();
        Check.due("back on its corner", Check.legalFrom(y, "h8"), "h8h1 h8h2 h8h3 h8h4 h8h5 h8h6 h8h7 h8f8 h8g8");
        Check.due("the king can castle again", Check.legalFrom(y, "e8"), "e8d7 e8e7 e8f7 e8c8 e8d8 e8f8 e8g8");
    }

    /** One more man on each square in turn, compared with the slow solver. */
    private static void castlingSweep() {
        Check.says("with the right for it .. all squares between them must be empty, the king not in check, and the square "
                + "that it passes not attacked");
        for (int square = 0; square < 64; square++) {
            for (char man : "PNBRQpnbrq".toCharArray()) {
                char[] board = ".".repeat(64).toCharArray();
                for (int i = 0; i < 6; i++) {
                    board[new int[] {0, 4, 7, 56, 60, 63}[i]] = "RKRrkr".charAt(i);
                }
                if (board[square] != '.') {
                    continue;
                }
                board[square] = man;
                sameMoves(Check.men(board) + " w KQkq - 0 1");
                sameMoves(Check.men(board) + " b KQkq - 0 1");
            }
        }
    }

    private static void sameMoves(String text) {
        Reference wanted = new Reference();
        int fault = wanted.read(text);
        MateProblems x = new MateProblems();
        Check.due("load " + text, Check.loading(x, text), fault);
        if (fault != 0) {
            return;
        }
        List<String> due = new ArrayList<>();
        for (int move : wanted.legal()) {
            due.add(Check.written(move));
        }
        Check.due(text, Check.legal(x), String.join(" ", due));
    }

    // Terms: legal, and what is behind a move.

    private static void legal() {
        Check.says("A move is LEGAL, if its side is not in check behind it.");
        moves("4r2k/8/8/8/8/8/4R3/4K3 w - -", "e2", "e2e3 e2e4 e2e5 e2e6 e2e7 e2e8");
        moves("4r2k/8/8/8/8/8/4N3/4K3 w - -", "e2", "");
        moves("7k/8/8/b7/8/8/3P4/4K3 w - -", "d2", "");
        moves("7k/8/8/8/8/2b5/3P4/4K3 w - -", "d2", "d2c3");
        moves("4r2k/8/8/8/8/8/4P3/4K3 w - -", "e2", "e2e3 e2e4");
        Check.due("out of check by going, taking, standing between", Check.legal(Check.at("k3r3/8/8/7B/8/8/8/4K2N w - - 0 1")),
                "e1d1 e1f1 e1d2 e1f2 h5e2 h5e8");
        Check.due("from two at once only the king goes", Check.legal(Check.at("k3r3/8/8/7B/8/5n2/8/4K3 w - - 0 1")), "e1d1 e1f1 e1f2");
        Check.due("not along the line of check", Check.legal(Check.at("k7/8/8/8/8/8/8/r3K3 w - - 0 1")), "e1d2 e1e2 e1f2");
        Check.due("both pawns leave the rank", Check.legal(Check.at("7k/8/8/K1pP3r/8/8/8/8 w - c6 0 1")), "a5a4 a5b5 a5a6 a5b6 d5d6");
    }

    private static void rightsLost() {
        Check.says("a right is lost when its king or its rook moves from its first square, or that rook is taken there");
        String white = CASTLE + " w KQkq - 0 1";
        castlings(white, "e1d1 e8d8 d1e1 d8e8", "");
        castlings(white, "a1a2 a8a7 a2a1 a7a8", "e1g1 e8g8");
        castlings(white, "h1h2 h8h7 h2h1 h7h8", "e1c1 e8c8");
        castlings(white, "a1b1 h8g8 b1a1 g8h8", "e1g1 e8c8");
        castlings(white, "h1g1 a8b8 g1h1 b8a8", "e1c1 e8g8");
        castlings(white, "e1f1 a8b8 f1e1 b8a8", "e8g8");
        castlings(white, "a1d1 e8f8 d1a1 f8e8", "e1g1");
        castlings(CASTLE + " b KQkq - 0 1", "e8f8 e1f1 f8e8 f1e1", "");
        castlings(white, "a1a8 e8e7 a8a1 e7e8", "e1g1");
        castlings(white, "h1h8 e8e7 h8h1 e7e8", "e1c1");
        // Each rook in turn is taken, and another one comes to its place.
        String longRook = "r3k2r/8/8/8/8/1n6/R7/R3K2R b KQkq - 0 1";
        castlings(longRook, "b3a1 a2a1", "e1g1 e8g8 e8c8");
        castlings(longRook, "b3a1 a2a1 a8a7", "e1g1 e8g8");
        castlings(longRook, "b3a1 a2a1 e8d8 h1h2 d8e8 h2h1", "");
        castlings("r3k2r/8/8/8/8/6n1/7R/R3K2R b KQkq - 0 1", "g3h1 h2h1", "e1c1 e8g8 e8c8");
        castlings("r3k2r/r7/1N6/8/8/8/8/R3K2R w KQkq - 0 1", "b6a8 a7a8", "e1g1 e1c1 e8g8");
        castlings("r3k2r/7r/6N1/8/8/8/8/R3K2R w KQkq - 0 1", "g6h8 h7h8", "e1g1 e1c1 e8c8");
    }

    private static void rightsStay() {
        Check.says("a right is lost when its king or its rook moves from its first square, or that rook is taken there: only then");
        castlings("rn2k2r/8/8/8/8/8/8/RN2K2R w KQkq - 0 1", "b1c3 b8c6 c3d5 c6d4", "e1g1 e1c1 e8g8 e8c8");
        castlings("r3k2r/8/8/8/8/8/8/R3K2R w - - 0 1", "a1a2 a8a7 a2a1 a7a8", "");
        // Other rooks move and are taken; a rook that comes back brings no right.
        castlings("r3k2r/8/8/8/8/8/R6R/R3K2R w KQkq - 0 1", "a2a3 h8h3 h2h3 a8a7", "e1g1 e1c1");
        castlings("r3k2r/8/8/8/8/8/R6R/R3K2R w KQkq - 0 1", "a2a8 e8e7", "e1g1 e1c1");
        castlings("4k2r/8/8/8/8/8/8/4K2R w Kk - 0 1", "h1h8 e8e7 h8h1 e7e8", "");
    }

    /** Which castlings of both sides there are behind some moves. */
    private static void castlings(String text, String moves, String want) {
        MateProblems x = Check.at(text);
        Check.play(x, moves);
        String now = castlingsNow(x);
        for (String step : new String[] {"e1e2", "e1d1", "e8e7", "e7e6", "e8d8"}) {
            if (Check.place(x, step) >= 0) {
                Check.play(x, step);
                break;
            }
        }
        String other = castlingsNow(x);
        boolean whiteFirst = now.contains("e1") || other.contains("e8");
        String all = whiteFirst ? now + " " + other : other + " " + now;
        Check.due(text + " behind " + moves, all.trim(), want);
    }

    private static String castlingsNow(MateProblems x) {
        List<String> all = new ArrayList<>();
        for (String way : new String[] {"e1g1", "e1c1", "e8g8", "e8c8"}) {
            if (Check.place(x, way) >= 0) {
                all.add(way);
            }
        }
        return String.join(" ", all);
    }

    private static void passedBehind() {
        Check.says("The passed square is the one that a pawn passed with two steps, if a pawn of the other side attacks it; otherwise none.");
        MateProblems x = Check.at("4k3/2p1p3/8/3P4/8/8/8/4K3 b - - 0 1");
        Check.play(x, "c7c5");
        Check.due("to the left", Check.legalFrom(x, "d5"), "d5c6 d5d6");
        x.back();
        Check.play(x, "e7e5");
        Check.due("to the right", Check.legalFrom(x, "d5"), "d5d6 d5e6");
        Check.play(x, "e1e2 c7c5");
        Check.due("only the latest", Check.legalFrom(x, "d5"), "d5c6 d5d6");
        Check.play(x, "e2e1 e8e7");
        Check.due("none", Check.legalFrom(x, "d5"), "d5d6");
        x.back();
        x.back();
        Check.due("it comes back", Check.legalFrom(x, "d5"), "d5c6 d5d6");
        x.back();
        Check.due("nothing is passed for black", Check.legalFrom(x, "e5"), "e5e4");
        MateProblems y = Check.at("4k3/8/8/8/3p4/8/2P1P3/4K3 w - - 0 1");
        Check.play(y, "e2e4");
        Check.due("black takes", Check.legalFrom(y, "d4"), "d4d3 d4e3");
        y.back();
        Check.play(y, "e2e3 e8e7 e3e4");
        Check.due("two single steps", Check.legalFrom(y, "d4"), "d4d3");
        // Another man that goes two squares up passes nothing.
        MateProblems z = Check.at("6k1/8/8/8/3p4/8/2R1Q3/6K1 w - - 0 1");
        Check.play(z, "e2e4");
        Check.due("a queen does not pass", Check.legalFrom(z, "d4"), "d4d3");
    }

    private static void told() {
        Check.says("A MOVE IS TOLD as from + 64 * to + 4096 * m (m the man that a pawn becomes, 2 .. 5, else 0).");
        MateProblems x = new MateProblems();
        Check.due("b1a3", x.move(0), 1 + 64 * 16);
        Check.due("h2h4", x.move(19), 15 + 64 * 31);
        MateProblems y = Check.at("7k/P7/8/8/8/8/8/7K w - - 0 1");
        Check.due("the last two of the king, then the pawn", y.moves(), 7);
        for (int m = 2; m <= 5; m++) {
            Check.due("the pawn becomes " + m, y.move(1 + m), 48 + 64 * 56 + 4096 * m);
        }
        Check.due("castling is told as the king's move", Check.place(Check.at(CASTLE + " w KQkq - 0 1"), "e1g1") >= 0, true);
        MateProblems z = Check.at("7k/8/8/1Pp5/8/8/8/7K w - c6 0 1");
        Check.due("in passing", Check.place(z, "b5c6") >= 0, true);
    }

    private static void inOrder() {
        Check.says("Moves are IN ORDER by from, then to, then m.");
        String[] texts = {"r3k2r/p1ppqpb1/bn2pnp1/3PN3/1p2P3/2N2Q1p/PPPBBPPP/R3K2R w KQkq - 0 1",
            "r3k2r/p1ppqpb1/bn2pnp1/3PN3/1p2P3/2N2Q1p/PPPBBPPP/R3K2R b KQkq - 0 1", "1n1n3k/P1P5/8/8/8/8/p1p5/1N1N3K w - - 0 1",
            "1n1n3k/P1P5/8/8/8/8/p1p5/1N1N3K b - - 0 1", "7k/8/8/1PpP4/8/8/8/7K w - c6 0 1",
            "R6R/3Q4/1Q4Q1/4Q3/2Q4Q/Q4Q2/pp1Q4/kBNN1KB1 w - - 0 1"};
        for (String text : texts) {
            MateProblems x = Check.at(text);
            int before = -1;
            int moves = x.moves();
            for (int k = 0; k < moves; k++) {
                int move = x.move(k);
                int rank = (move & 63) * 64 * 8 + (move >> 6 & 63) * 8 + (move >> 12);
                Check.due("move " + k + " of " + text, rank > before, true);
                before = rank;
            }
        }
    }

    // Promises 5 and 6.

    private static void howMany() {
        Check.says("How many legal moves there are.");
        Check.due("none, in check", Check.at("R5k1/5ppp/8/8/8/8/8/6K1 b - - 0 1").moves(), 0);
        Check.due("none, not in check", Check.at("7k/5Q2/8/6K1/8/8/8/8 b - - 0 1").moves(), 0);
        Check.due("just one", Check.legal(Check.at("7k/8/6K1/8/8/8/8/8 b - - 0 1")), "h8g8");
        Check.due("two", Check.legal(Check.at("7k/8/5K2/8/8/8/8/8 b - - 0 1")), "h8h7 h8g8");
        Check.due("very many", Check.at("R6R/3Q4/1Q4Q1/4Q3/2Q4Q/Q4Q2/pp1Q4/kBNN1KB1 w - - 0 1").moves(), 218);
        // More men than a game has.
        sameMoves("QQQQQQQk/QQQQQQ1Q/Q1QQQ1Q1/Q7/7Q/1Q1Q1Q2/QQ1QQQQQ/KQQQQQQQ b - - 0 1");
        sameMoves("Q1Q1Q1Q1/8/Q1Q1Q1Q1/8/Q1Q1Q1Q1/4N3/N1N1N1N1/K1k5 w - - 0 1");
        sameMoves("n1n1n1n1/1P1P1P1P/8/N1N1N1N1/1Q1Q1Q1Q/8/Q1Q1Q3/K1B1B2k w - - 0 1");
    }

    private static void moveK() {
        Check.says("Legal move k, in order. IndexOutOfBoundsException when there is none.");
        for (String text : new String[] {"rnbqkbnr/pppppppp/8/8/8/8/PPPPPPPP/RNBQKBNR w KQkq - 0 1", "7k/8/5K2/8/8/8/8/5R2 b - - 0 1",
            "7k/5Q2/8/6K1/8/8/8/8 b - - 0 1", "R5k1/5ppp/8/8/8/8/8/6K1 b - - 0 1"}) {
            MateProblems x = Check.at(text);
            int moves = x.moves();
            for (int k : new int[] {-1, -2, Integer.MIN_VALUE, moves, moves + 1, 255, 1000, Integer.MAX_VALUE}) {
                Check.thrown("move " + k, IndexOutOfBoundsException.class, () -> x.move(k));
            }
            for (int k = 0; k < moves; k++) {
                Check.due("move " + k, x.move(k) >= 0, true);
            }
        }
        // A position with fewer moves than the one before it.
        MateProblems y = new MateProblems();
        Check.due("load", Check.loading(y, "7k/8/5K2/8/8/8/8/5R2 b - - 0 1"), 0);
        Check.thrown("move 2", IndexOutOfBoundsException.class, () -> y.move(2));
    }

    // Promise 7.

    private static void playCounts() {
        Check.says("A move is made: how many are made (since load or the beginning, and not taken back) then.");
        MateProblems x = new MateProblems();
        for (int i = 0; i < 8; i++) {
            Check.due("since the beginning", x.play(Check.told(SHUFFLE[i])), i + 1);
        }
        MateProblems y = new MateProblems();
        Check.play(y, "e2e4 e7e5");
        Check.due("load", Check.loading(y, CASTLE + " b KQkq - 0 1"), 0);
        Check.due("since load", y.play(Check.told("e8g8")), 1);
        Check.due("two", y.play(Check.told("e1c1")), 2);
        Check.due("taken back", y.back(), 1);
        Check.due("two again", y.play(Check.told("e1e2")), 2);
        Check.due("back", y.back(), 1);
        Check.due("back", y.back(), 0);
        Check.due("one again", y.play(Check.told("e8c8")), 1);
    }

    private static void playRefused() {
        Check.says("IllegalArgumentException when it is not legal");
        MateProblems x = new MateProblems();
        int good = Check.told("e2e4");
        int[] bad = {0, -1, Integer.MIN_VALUE, Integer.MAX_VALUE, good + 4096, good + 2 * 4096, good + 5 * 4096, good + 6 * 4096,
            good + 8 * 4096, good + 65536, good - 65536, good | Integer.MIN_VALUE, -good, Check.told("e2e5"), Check.told("e2d3"),
            Check.told("e7e5"), Check.told("e1g1"), Check.told("a1a2"), Check.told("e4e5"), Check.told("d1h5"), good + 64 * 64 * 64};
        for (int move : bad) {
            Check.thrown("play " + move, IllegalArgumentException.class, () -> x.play(move));
        }
        Check.due("none was made", x.play(good), 1);
        MateProblems y = Check.at("4r2k/P7/8/8/8/8/4N3/4K3 w - - 0 1");
        for (int move : new int[] {Check.told("a7a8"), Check.told("a7a8") + 4096, Check.told("a7a8") + 6 * 4096, Check.told("a7a8") + 7 * 4096,
            Check.told("e2c3"), Check.told("e2g3"), Check.told("e1g1"), Check.told("e1c1"), Check.told("e1e2"), MateProblems.NONE, MateProblems.STUCK}) {
            Check.thrown("play " + move, IllegalArgumentException.class, () -> y.play(move));
        }
        MateProblems beaten = Check.at("7k/5Q2/8/6K1/8/8/8/8 b - - 0 1");
        Check.thrown("there is no legal move", IllegalArgumentException.class, () -> beaten.play(Check.told("h8g8")));
        Check.thrown("nor is 0 one", IllegalArgumentException.class, () -> beaten.play(0));
    }

    private static void playEight() {
        Check.says("UnsupportedOperationException when eight were made");
        MateProblems x = new MateProblems();
        for (int i = 0; i < 8; i++) {
            Check.due("move " + i, x.play(Check.told(SHUFFLE[i])), i + 1);
        }
        int moves = x.moves();
        for (int k = 0; k < moves; k++) {
            int move = x.move(k);
            Check.thrown("the ninth, " + Check.written(move), UnsupportedOperationException.class, () -> x.play(move));
        }
        Check.due("nothing changed", Check.legalFrom(x, "b1"), "b1a3 b1c3");
        Check.thrown("the one that is named first", IllegalArgumentException.class, () -> x.play(Check.told("e2e5")));
        Check.thrown("the one that is named first", IllegalArgumentException.class, () -> x.play(-1));
        Check.due("back", x.back(), 7);
        Check.due("the eighth again", x.play(Check.told("f6g8")), 8);
        Check.thrown("the ninth", UnsupportedOperationException.class, () -> x.play(Check.told("e2e4")));
        Check.due("load", Check.loading(x, CASTLE + " w KQkq - 0 1"), 0);
        Check.due("the first since load", x.play(Check.told("e1g1")), 1);
    }

    // Promise 8.

    private static void backCounts() {
        Check.says("The latest move is taken back: how many are left.");
        MateProblems x = new MateProblems();
        String[] before = new String[8];
        for (int i = 0; i < 8; i++) {
            before[i] = Check.legal(x);
            x.play(Check.told(SHUFFLE[i]));
        }
        for (int i = 7; i >= 0; i--) {
            Check.due("back", x.back(), i);
            Check.due("as before move " + i, Check.legal(x), before[i]);
        }
    }

    private static void backRestores() {
        Check.says("The latest move is taken back: men, rights and the passed square with it");
        String[][] cases = {{CASTLE + " w KQkq - 0 1", "e1g1"}, {CASTLE + " w KQkq - 0 1", "e1c1"}, {CASTLE + " b KQkq - 0 1", "e8g8"},
            {CASTLE + " b KQkq - 0 1", "e8c8"}, {CASTLE + " w KQkq - 0 1", "h1h8"}, {CASTLE + " b KQkq - 0 1", "a8a1"},
            {CASTLE + " w KQkq - 0 1", "e1e2"}, {"7k/8/8/1PpP4/8/8/8/7K w - c6 0 1", "b5c6"}, {"7k/8/8/1PpP4/8/8/8/7K w - c6 0 1", "d5c6"},
            {"7k/8/8/1PpP4/8/8/8/7K w - c6 0 1", "h1g1"}, {"7k/8/8/8/1pPp4/8/8/7K b - c3 0 1", "b4c3"}, {"1n5k/P7/8/8/8/8/8/7K w - - 0 1", "a7b8q"},
            {"1n5k/P7/8/8/8/8/8/7K w - - 0 1", "a7a8n"}, {"7k/8/8/8/8/8/p7/1N5K b - - 0 1", "a2b1r"}, {"7k/8/8/8/8/8/p7/1N5K b - - 0 1", "a2a1b"}};
        for (String[] c : cases) {
            MateProblems x = Check.at(c[0]);
            String before = Check.legal(x);
            Check.play(x, c[1]);
            int replies = x.moves();
            for (int k = 0; k < replies && k < 12; k++) {
                x.play(x.move(k));
                Check.due("back", x.back(), 1);
                Check.due("replies to " + c[1], x.moves(), replies);
            }
            Check.due("back", x.back(), 0);
            Check.due(c[0] + " before " + c[1], Check.legal(x), before);
        }
    }

    private static void backRefused() {
        Check.says("IllegalStateException when none was made");
        MateProblems x = new MateProblems();
        Check.thrown("a new object", IllegalStateException.class, x::back);
        Check.due("play", x.play(Check.told("e2e4")), 1);
        Check.due("back", x.back(), 0);
        Check.thrown("all are taken back", IllegalStateException.class, x::back);
        Check.thrown("and again", IllegalStateException.class, x::back);
        Check.due("white is to move", x.moves(), 20);
        Check.due("play", x.play(Check.told("e2e4")), 1);
        Check.due("load", Check.loading(x, CASTLE + " w KQkq - 0 1"), 0);
        Check.thrown("a loaded position", IllegalStateException.class, x::back);
        Check.due("play", x.play(Check.told("e1g1")), 1);
        Check.due("back", x.back(), 0);
    }

    // Promise 9.

    private static void beaten() {
        Check.says("Whether the side to move is BEATEN: 1 by mate, 2 by stalemate, 0 not.");
        beaten(1, "R5k1/5ppp/8/8/8/8/8/6K1 b -", "7k/6Q1/5K2/8/8/8/8/8 b -", "6k1/8/8/8/8/8/5PPP/r5K1 w -", "6rk/5Npp/8/8/8/8/8/K7 b -",
                "k7/8/8/8/8/8/1q6/K1b5 w -");
        beaten(2, "7k/5Q2/8/6K1/8/8/8/8 b -", "k7/P7/K7/8/8/8/8/8 b -", "7K/5q2/8/6k1/8/8/8/8 w -", "8/8/8/8/8/k7/p7/K7 w -",
                "k7/p1K5/P7/8/8/8/8/1R6 b -");
        beaten(0, "R5k1/5pp1/7p/8/8/8/8/6K1 b -", "R4bk1/5ppp/8/8/8/8/8/6K1 b -", "7k/5Q2/8/6K1/8/8/8/8 w -",
                "7k/5Q2/8/p5K1/8/8/8/8 b -", "7k/8/8/8/8/8/8/K7 w -", "k7/8/8/8/8/8/1q6/K7 w -");
        MateProblems x = new MateProblems();
        Check.play(x, "f2f3 e7e5 g2g4");
        Check.due("before the mate", x.beaten(), 0);
        Check.play(x, "d8h4");
        Check.due("behind it", x.beaten(), 1);
        x.back();
        Check.due("taken back", x.beaten(), 0);
        // The only legal move takes in passing.
        beaten(0, "8/8/8/6pP/5kbK/8/8/8 w g6", "8/8/4K3/5P1k/R4QPp/8/8/8 b g3", "5K2/8/3k2q1/2pP4/8/8/8/8 w c6", "8/8/8/8/6pP/K5Q1/8/7k b h3");
        beaten(1, "8/8/8/6pP/5kbK/8/8/8 w -", "8/8/4K3/5P1k/R4QPp/8/8/8 b -");
        beaten(2, "5K2/8/3k2q1/2pP4/8/8/8/8 w -", "8/8/8/8/6pP/K5Q1/8/7k b -");
    }

    private static void beaten(int want, String... texts) {
        for (String text : texts) {
            int passed = text.lastIndexOf(' ');
            Check.due(text, Check.at(text.substring(0, passed) + " -" + text.substring(passed) + " 0 1").beaten(), want);
        }
    }

    private static void beatenByThatAlone() {
        Check.says("(Repetition, the clock, and what is too little, do not count here.)");
        MateProblems x = new MateProblems();
        for (String move : SHUFFLE) {
            x.play(Check.told(move));
            Check.due("repetition", x.beaten(), 0);
        }
        Check.due("the first position for the third time", x.moves(), 20);
        for (String clock : new String[] {"99", "100", "149", "150", "999"}) {
            MateProblems y = Check.at("7k/8/5KQ1/8/8/8/8/8 w - - " + clock + " 999");
            Check.due("clock " + clock, y.beaten(), 0);
            Check.due("clock " + clock, y.moves() > 0, true);
            Check.due("a mate all the same", Check.keys(y, 0, 0, 1), "g6g7");
            Check.due("two moves later too", y.keys(0, 0, 3) > 0, true);
            Check.play(y, "g6g7");
            Check.due("mate", y.beaten(), 1);
        }
        MateProblems late = Check.at("rnbqkbnr/pppppppp/8/8/8/8/PPPPPPPP/RNBQKBNR w KQkq - 999 999");
        for (int i = 0; i < 8; i++) {
            Check.due("beyond the greatest clock and number", late.play(Check.told(SHUFFLE[i])), i + 1);
        }
        for (String men : new String[] {"7k/8/8/8/8/8/8/K7", "7k/8/8/8/8/8/8/KN6", "7k/8/8/8/8/8/8/1KB5", "7k/8/8/8/8/8/8/KNN5"}) {
            MateProblems y = Check.at(men + " b - - 0 1");
            Check.due("too little", y.beaten(), 0);
            Check.due("too little", Check.legal(y), "h8g7 h8h7 h8g8");
        }
        // One bishop alone, and mate all the same.
        beaten(1, "kb6/8/K1B5/8/8/8/8/8 b -");
        Check.due("mate with one bishop", Check.keys(Check.at("kb6/8/K7/8/B7/8/8/8 w - - 0 1"), 0, 0, 1), "a4c6");
    }
}
