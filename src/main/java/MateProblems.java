/**
 * A solver of chess problems: direct and self problems with mate or stalemate as their goal,
 * and help lines in which both sides work together.
 *
 * <p>All rows are made in the constructor and used again, so that no call makes an object (but
 * for the exceptions that the document asks for).
 */
public final class MateProblems {
    public static final int NONE = -1;
    public static final int STUCK = -2;

    private static final int WHITE = 0;

    private static final int PAWN = 1;
    private static final int KNIGHT = 2;
    private static final int BISHOP = 3;
    private static final int ROOK = 4;
    private static final int QUEEN = 5;
    private static final int KING = 6;
    private static final int BLACK_MEN = 8;

    private static final int NO_SQUARE = -1;
    private static final long END_RANKS = 0xff000000000000ffL;
    private static final long CASTLED_KINGS = 1L << 2 | 1L << 6 | 1L << 58 | 1L << 62;

    private static final int DIRECT = 0;
    private static final int SELF = 1;
    private static final int MATE = 0;
    private static final int STALEMATE = 1;

    private static final int MOST_MADE = 8;
    private static final int MOST_MOVES = 3;
    private static final int MOST_HELP_MOVES = 2;

    /** Three moves of each side is the deepest that a problem looks. */
    private static final int MOST_PLIES = 6;

    // Ways that a man can step: 0 .. 3 along files and ranks (up, down, right, left), 4 .. 7 along
    // diagonals (up right, up left, down right, down left), 8 .. 15 as a knight.
    private static final int[] FILE_STEP = {0, 0, 1, -1, 1, -1, 1, -1, 1, 2, 2, 1, -1, -2, -2, -1};
    private static final int[] RANK_STEP = {1, -1, 0, 0, 1, 1, -1, -1, 2, 1, -1, -2, -2, -1, 1, 2};
    private static final int UP = 0;
    private static final int DOWN = 1;
    private static final int UP_RIGHT = 4;
    private static final int DOWN_RIGHT = 6;
    private static final int LINE_WAYS = 8;
    private static final int ALL_WAYS = 16;
    private static final int LONGEST_LINE = 7;

    // By man: the ways, one bit each, in which such a man may stand from a square that it attacks,
    // one step away (NEAR) or more (FAR).
    private static final int[] NEAR = {0, 192, 0, 240, 15, 255, 255, 0, 0, 48, 0, 240, 15, 255, 255, 0};
    private static final int[] FAR = {0, 0, 0, 240, 15, 255, 0, 0, 0, 0, 0, 240, 15, 255, 0, 0};

    // By square: the castling rights that are lost when a man leaves it or is taken there.
    private static final int[] RIGHTS_AT = {
        2, 0, 0, 0, 3, 0, 0, 1,
        0, 0, 0, 0, 0, 0, 0, 0,
        0, 0, 0, 0, 0, 0, 0, 0,
        0, 0, 0, 0, 0, 0, 0, 0,
        0, 0, 0, 0, 0, 0, 0, 0,
        0, 0, 0, 0, 0, 0, 0, 0,
        0, 0, 0, 0, 0, 0, 0, 0,
        8, 0, 0, 0, 12, 0, 0, 4
    };

    // Where kings stand at first, and how far from them their rooks.
    private static final int WHITE_HOME = 4;
    private static final int BLACK_HOME = 60;
    private static final int SHORT_ROOK = 3;
    private static final int LONG_ROOK = -4;

    private final Text text;
    private final Reader reader;
    private final Board draft;
    private final Board board;
    private final Mover mover;
    private final MoveRow legal;
    private final MoveRow found;
    private final Solver solver;
    private final HelpLines help;

    public MateProblems() {
        int[] next = stepTable();
        text = new Text();
        draft = new Board(next);
        reader = new Reader(text, draft);
        board = new Board(next);
        board.setUp();
        mover = new Mover(board);
        legal = new MoveRow();
        found = new MoveRow();
        MoveRow[] rows = new MoveRow[MOST_PLIES];
        for (int ply = 0; ply < MOST_PLIES; ply++) {
            rows[ply] = new MoveRow();
        }
        solver = new Solver(board, mover, rows);
        help = new HelpLines(board, mover, rows);
        mover.fillLegal(legal);
    }

    public boolean type(long w, int n) {
        return text.append(w, n);
    }

    public boolean cut(int n) {
        return text.shorten(n);
    }

    public int load() {
        int fault = reader.read();
        if (fault == 0) {
            board.copy(draft);
            text.shorten(0);
            positionChanged();
        }
        return fault;
    }

    public int moves() {
        return legal.count;
    }

    public int move(int k) throws IndexOutOfBoundsException {
        if (!legal.has(k)) {
            throw new IndexOutOfBoundsException("there is no such legal move");
        }
        return legal.told[k];
    }

    public int play(int move) throws IllegalArgumentException, UnsupportedOperationException {
        if (!legal.holds(move)) {
            throw new IllegalArgumentException("the move is not legal");
        }
        if (board.depth >= MOST_MADE) {
            throw new UnsupportedOperationException("eight moves are made");
        }
        board.make(move);
        positionChanged();
        return board.depth;
    }

    public int back() throws IllegalStateException {
        if (board.depth == 0) {
            throw new IllegalStateException("no move is made");
        }
        board.unmake();
        positionChanged();
        return board.depth;
    }

    public int beaten() {
        if (legal.count > 0) {
            return 0;
        }
        return board.inCheck() ? 1 : 2;
    }

    public int keys(int kind, int goal, int n) throws IllegalArgumentException {
        checkProblem(kind, goal, n);
        solver.ask(kind, goal);
        found.count = 0;
        for (int k = 0; k < legal.count; k++) {
            board.make(legal.told[k]);
            if (solver.refutation(n, 1) == NONE) {
                found.add(legal.told[k]);
            }
            board.unmake();
        }
        return found.count;
    }

    public int key(int i) throws IndexOutOfBoundsException {
        if (!found.has(i)) {
            throw new IndexOutOfBoundsException("there is no such key");
        }
        return found.told[i];
    }

    public int least(int kind, int goal, int most) throws IllegalArgumentException {
        checkProblem(kind, goal, most);
        solver.ask(kind, goal);
        for (int n = 1; n <= most; n++) {
            if (solver.hasKey(n, 0)) {
                return n;
            }
        }
        return 0;
    }

    public int refuted(int kind, int goal, int n, int k)
            throws IllegalArgumentException, IndexOutOfBoundsException {
        checkProblem(kind, goal, n);
        if (!legal.has(k)) {
            throw new IndexOutOfBoundsException("there is no such legal move");
        }
        solver.ask(kind, goal);
        board.make(legal.told[k]);
        int answer = solver.refutation(n, 1);
        board.unmake();
        return answer;
    }

    public int lines(int goal, int n) throws IllegalArgumentException {
        checkHelp(goal, n);
        if (!help.knows(goal, n, 0)) {
            help.walk(0);
        }
        return help.count;
    }

    public int line(int goal, int n, int i, int j)
            throws IllegalArgumentException, IndexOutOfBoundsException {
        checkHelp(goal, n);
        if (i < 0 || j < 0 || j >= 2 * n) {
            throw new IndexOutOfBoundsException("there is no such line or move");
        }
        if (!help.knows(goal, n, i)) {
            help.walk(0);
        }
        if (i >= help.count) {
            throw new IndexOutOfBoundsException("there is no such line");
        }
        return help.moveOf(i, j);
    }

    /** Keys and help lines belong to one position: they end with it. */
    private void positionChanged() {
        mover.fillLegal(legal);
        found.count = 0;
        help.forget();
    }

    private static void checkProblem(int kind, int goal, int n) {
        if (kind != DIRECT && kind != SELF) {
            throw new IllegalArgumentException("the kind is not 0 or 1");
        }
        checkGoal(goal);
        if (n < 1 || n > MOST_MOVES) {
            throw new IllegalArgumentException("the number of moves is not 1 .. 3");
        }
    }

    private static void checkHelp(int goal, int n) {
        checkGoal(goal);
        if (n < 1 || n > MOST_HELP_MOVES) {
            throw new IllegalArgumentException("the number of moves is not 1 or 2");
        }
    }

    private static void checkGoal(int goal) {
        if (goal != MATE && goal != STALEMATE) {
            throw new IllegalArgumentException("the goal is not 0 or 1");
        }
    }

    /** At 64 * way + square: the square one step that way, or NO_SQUARE off the board. */
    private static int[] stepTable() {
        int[] next = new int[ALL_WAYS * 64];
        for (int way = 0; way < ALL_WAYS; way++) {
            for (int square = 0; square < 64; square++) {
                int file = (square & 7) + FILE_STEP[way];
                int rank = (square >> 3) + RANK_STEP[way];
                boolean inside = file >= 0 && file < 8 && rank >= 0 && rank < 8;
                next[64 * way + square] = inside ? file + 8 * rank : NO_SQUARE;
            }
        }
        return next;
    }

    /** The characters that were typed and not yet loaded. */
    private static final class Text {
        private static final int MOST = 100;

        private final char[] chars = new char[MOST];
        private int length;

        boolean append(long word, int n) {
            if (n < 1 || n > 8 || length + n > MOST) {
                return false;
            }
            for (int i = 0; i < n; i++) {
                int c = byteOf(word, i);
                if (c < 32 || c > 126) {
                    return false;
                }
            }
            for (int i = 0; i < n; i++) {
                chars[length + i] = (char) byteOf(word, i);
            }
            length += n;
            return true;
        }

        boolean shorten(int n) {
            if (n < 0 || n > length) {
                return false;
            }
            length = n;
            return true;
        }

        /** Character 0, which cannot be typed, stands for the end. */
        char at(int place) {
            return place >= 0 && place < length ? chars[place] : 0;
        }

        private static int byteOf(long word, int i) {
            return (int) (word >>> (8 * i)) & 255;
        }
    }

    /** Reads the text of a position into a draft and tells its first fault. */
    private static final class Reader {
        private static final int BADLY_WRITTEN = 1;
        private static final int WRONG_KINGS = 2;
        private static final int PAWN_AT_END = 3;
        private static final int OTHER_IN_CHECK = 4;
        private static final int WRONG_RIGHT = 5;
        private static final int WRONG_PASSED = 6;

        private static final String LETTERS = " PNBRQK  pnbrqk";
        private static final String RIGHTS = "KQkq";

        private final Text text;
        private final Board draft;
        private int place;

        Reader(Text text, Board draft) {
            this.text = text;
            this.draft = draft;
        }

        int read() {
            place = 0;
            draft.clear();
            if (!isWell()) {
                return BADLY_WRITTEN;
            }
            if (!hasTwoKings()) {
                return WRONG_KINGS;
            }
            if (hasPawnAtEnd()) {
                return PAWN_AT_END;
            }
            if (!draft.isLegal()) {
                return OTHER_IN_CHECK;
            }
            if (!hasGoodRights()) {
                return WRONG_RIGHT;
            }
            return hasGoodPassed() ? 0 : WRONG_PASSED;
        }

        private boolean isWell() {
            return readMen() && take(' ')
                    && readSide() && take(' ')
                    && readRights() && take(' ')
                    && readPassed() && take(' ')
                    && readNumber(0) && take(' ')
                    && readNumber(1) && take((char) 0);
        }

        private boolean take(char wanted) {
            if (text.at(place) != wanted) {
                return false;
            }
            place++;
            return true;
        }

        private boolean readMen() {
            for (int rank = 7; rank >= 0; rank--) {
                if (!readRank(rank) || rank > 0 && !take('/')) {
                    return false;
                }
            }
            return true;
        }

        private boolean readRank(int rank) {
            int file = 0;
            boolean afterDigit = false;
            for (int i = 0; i < 8 && file < 8; i++) {
                char c = text.at(place);
                boolean digit = c >= '1' && c <= '8';
                if (digit && !afterDigit) {
                    file += c - '0';
                } else {
                    int man = manOf(c);
                    if (man == 0) {
                        return false;
                    }
                    draft.put(file + 8 * rank, man);
                    file++;
                }
                afterDigit = digit;
                place++;
            }
            return file == 8;
        }

        private static int manOf(char c) {
            for (int man = 1; man < LETTERS.length(); man++) {
                if (c != ' ' && LETTERS.charAt(man) == c) {
                    return man;
                }
            }
            return 0;
        }

        private boolean readSide() {
            draft.side = text.at(place) == 'b' ? 1 : WHITE;
            return take('b') || take('w');
        }

        private boolean readRights() {
            if (take('-')) {
                return true;
            }
            for (int i = 0; i < RIGHTS.length(); i++) {
                if (take(RIGHTS.charAt(i))) {
                    draft.rights |= 1 << i;
                }
            }
            return draft.rights != 0;
        }

        private boolean readPassed() {
            if (take('-')) {
                return true;
            }
            int file = text.at(place) - 'a';
            int rank = text.at(place + 1) - '1';
            if (file < 0 || file > 7 || rank < 0 || rank > 7) {
                return false;
            }
            draft.passed = file + 8 * rank;
            place += 2;
            return true;
        }

        /** The clock and the number of the move bear on no answer, so only their form is read. */
        private boolean readNumber(int least) {
            int first = text.at(place) - '0';
            if (first < least || first > 9) {
                return false;
            }
            place++;
            for (int i = 0; i < 2 && first > 0; i++) {
                int digit = text.at(place) - '0';
                if (digit >= 0 && digit <= 9) {
                    place++;
                }
            }
            return true;
        }

        private boolean hasTwoKings() {
            int white = 0;
            int black = 0;
            for (int square = 0; square < 64; square++) {
                if (draft.men[square] == KING) {
                    draft.kings[0] = square;
                    white++;
                } else if (draft.men[square] == KING + BLACK_MEN) {
                    draft.kings[1] = square;
                    black++;
                }
            }
            return white == 1 && black == 1;
        }

        private boolean hasPawnAtEnd() {
            for (int file = 0; file < 8; file++) {
                if ((draft.men[file] & 7) == PAWN || (draft.men[file + 56] & 7) == PAWN) {
                    return true;
                }
            }
            return false;
        }

        private boolean hasGoodRights() {
            int[] men = draft.men;
            boolean whiteKing = men[WHITE_HOME] == KING;
            boolean blackKing = men[BLACK_HOME] == KING + BLACK_MEN;
            int good = 0;
            if (whiteKing && men[WHITE_HOME + SHORT_ROOK] == ROOK) {
                good |= 1;
            }
            if (whiteKing && men[WHITE_HOME + LONG_ROOK] == ROOK) {
                good |= 2;
            }
            if (blackKing && men[BLACK_HOME + SHORT_ROOK] == ROOK + BLACK_MEN) {
                good |= 4;
            }
            if (blackKing && men[BLACK_HOME + LONG_ROOK] == ROOK + BLACK_MEN) {
                good |= 8;
            }
            return (draft.rights & ~good) == 0;
        }

        private boolean hasGoodPassed() {
            int passed = draft.passed;
            if (passed == NO_SQUARE) {
                return true;
            }
            int side = draft.side;
            if (passed >> 3 != (side == WHITE ? 5 : 2)) {
                return false;
            }
            int forward = side == WHITE ? 8 : -8;
            int otherPawn = side == WHITE ? PAWN + BLACK_MEN : PAWN;
            return draft.men[passed] == 0
                    && draft.men[passed - forward] == otherPawn
                    && draft.men[passed + forward] == 0
                    && draft.pawnAttacks(passed, side);
        }
    }

    /** Moves as they are told, in the order in which they were added. */
    private static final class MoveRow {
        /**
         * No position has more moves, legal or not. With m men of its own a side has at most 27 * m;
         * and each of the other 64 - m squares is reached along each of eight lines by one man and
         * by eight knights, so that there are at most 16 * (64 - m), and 72 for what pawns become
         * and 2 castlings. The less of both is at most 682.
         */
        private static final int MOST = 704;

        final int[] told = new int[MOST];
        int count;

        void add(int move) {
            if (count < MOST) {
                told[count] = move;
                count++;
            }
        }

        /** The moves of one man to some squares, in order; a pawn may have to become another man. */
        void addAll(int from, long targets, boolean pawn) {
            long left = targets;
            for (int i = 0; i < 64 && left != 0; i++) {
                long lowest = left & -left;
                left ^= lowest;
                int move = from + 64 * Long.bitCount(lowest - 1);
                if (!pawn || (lowest & END_RANKS) == 0) {
                    add(move);
                    continue;
                }
                for (int man = KNIGHT; man <= QUEEN; man++) {
                    add(move + 4096 * man);
                }
            }
        }

        boolean has(int k) {
            return k >= 0 && k < count;
        }

        boolean holds(int move) {
            for (int i = 0; i < count; i++) {
                if (told[i] == move) {
                    return true;
                }
            }
            return false;
        }

        /** Where the order does not matter, a move that is likely to decide can go first. */
        void bringFirst(int move) {
            for (int i = 1; i < count; i++) {
                if (told[i] == move) {
                    told[i] = told[0];
                    told[0] = move;
                    return;
                }
            }
        }
    }

    /** The men on their squares, and the moves that were made, so that they can be taken back. */
    private static final class Board {
        private static final int MOST_DEPTH = MOST_MADE + MOST_PLIES + 2;

        private static final int[] FIRST_RANK = {ROOK, KNIGHT, BISHOP, QUEEN, KING, BISHOP, KNIGHT, ROOK};

        private final int[] next;
        final int[] men = new int[64];

        /** By side: the squares of its men, one bit each. */
        final long[] held = new long[2];
        final int[] kings = new int[2];
        int side;
        int rights;
        int passed = NO_SQUARE;

        int depth;
        private final int[] made = new int[MOST_DEPTH];
        private final int[] taken = new int[MOST_DEPTH];
        private final int[] takenAt = new int[MOST_DEPTH];
        private final int[] rightsBefore = new int[MOST_DEPTH];
        private final int[] passedBefore = new int[MOST_DEPTH];

        Board(int[] next) {
            this.next = next;
        }

        void clear() {
            for (int square = 0; square < 64; square++) {
                men[square] = 0;
            }
            held[0] = 0;
            held[1] = 0;
            side = WHITE;
            rights = 0;
            passed = NO_SQUARE;
            depth = 0;
        }

        void setUp() {
            clear();
            for (int file = 0; file < 8; file++) {
                put(file, FIRST_RANK[file]);
                put(file + 8, PAWN);
                put(file + 48, PAWN + BLACK_MEN);
                put(file + 56, FIRST_RANK[file] + BLACK_MEN);
            }
            kings[0] = WHITE_HOME;
            kings[1] = BLACK_HOME;
            rights = 15;
        }

        void copy(Board other) {
            for (int square = 0; square < 64; square++) {
                men[square] = other.men[square];
            }
            for (int one = 0; one < 2; one++) {
                held[one] = other.held[one];
                kings[one] = other.kings[one];
            }
            side = other.side;
            rights = other.rights;
            passed = other.passed;
            depth = 0;
        }

        void put(int square, int man) {
            men[square] = man;
            held[man >> 3] |= 1L << square;
        }

        private void lift(int square) {
            held[men[square] >> 3] &= ~(1L << square);
            men[square] = 0;
        }

        boolean attacked(int square, int by) {
            for (int way = LINE_WAYS; way < ALL_WAYS; way++) {
                int at = next[64 * way + square];
                if (at >= 0 && men[at] == KNIGHT + BLACK_MEN * by) {
                    return true;
                }
            }
            for (int way = 0; way < LINE_WAYS; way++) {
                int at = next[64 * way + square];
                for (int far = 0; far < LONGEST_LINE && at >= 0; far++) {
                    int man = men[at];
                    if (man != 0) {
                        int ways = far == 0 ? NEAR[man] : FAR[man];
                        if (man >> 3 == by && (ways >> way & 1) != 0) {
                            return true;
                        }
                        break;
                    }
                    at = next[64 * way + at];
                }
            }
            return false;
        }

        boolean pawnAttacks(int square, int by) {
            int pawn = PAWN + BLACK_MEN * by;
            int way = by == WHITE ? DOWN_RIGHT : UP_RIGHT;
            int right = next[64 * way + square];
            int left = next[64 * (way + 1) + square];
            return right >= 0 && men[right] == pawn || left >= 0 && men[left] == pawn;
        }

        /** The squares up to the first man, his too, that are so many steps away at most. */
        long seen(int from, int firstWay, int endWay, int most) {
            long all = 0;
            for (int way = firstWay; way < endWay; way++) {
                int at = next[64 * way + from];
                for (int far = 0; far < most && at >= 0; far++) {
                    all |= 1L << at;
                    at = men[at] == 0 ? next[64 * way + at] : NO_SQUARE;
                }
            }
            return all;
        }

        /** Where just one man stands between the square and a man of that side who attacks along lines. */
        long shields(int square, int by) {
            long all = 0;
            for (int way = 0; way < LINE_WAYS; way++) {
                long shield = 0;
                int at = next[64 * way + square];
                for (int far = 0; far < LONGEST_LINE && at >= 0; far++) {
                    int man = men[at];
                    if (man != 0 && shield != 0) {
                        boolean attacks = man >> 3 == by && (FAR[man] >> way & 1) != 0;
                        all |= attacks ? shield : 0;
                        break;
                    }
                    if (man != 0) {
                        shield = 1L << at;
                    }
                    at = next[64 * way + at];
                }
            }
            return all;
        }

        /** One step forwards for that side, or NO_SQUARE. */
        int inFront(int square, int who) {
            return next[64 * (who == WHITE ? UP : DOWN) + square];
        }

        /** Whether the side to move is in check. */
        boolean inCheck() {
            return attacked(kings[side], 1 - side);
        }

        /** Whether the side that is not to move, which made the latest move, is not in check. */
        boolean isLegal() {
            return !attacked(kings[1 - side], side);
        }

        void make(int move) {
            if (depth >= MOST_DEPTH) {
                return;
            }
            int from = move & 63;
            int to = move >> 6 & 63;
            int becomes = move >> 12;
            int man = men[from];
            boolean pawn = (man & 7) == PAWN;
            // A pawn that just passed stands on the other rank of a pair: 4 for 5, 3 for 2.
            int victimAt = pawn && to == passed ? to ^ 8 : to;
            made[depth] = move;
            taken[depth] = men[victimAt];
            takenAt[depth] = victimAt;
            rightsBefore[depth] = rights;
            passedBefore[depth] = passed;
            depth++;
            lift(victimAt);
            lift(from);
            put(to, becomes == 0 ? man : becomes + BLACK_MEN * side);
            if ((man & 7) == KING) {
                kings[side] = to;
                castleRook(from, to, true);
            }
            rights &= ~(RIGHTS_AT[from] | RIGHTS_AT[to]);
            side = 1 - side;
            int between = (from + to) >> 1;
            boolean passes = pawn && Math.abs(to - from) == 16;
            passed = passes && pawnAttacks(between, side) ? between : NO_SQUARE;
        }

        void unmake() {
            if (depth <= 0) {
                return;
            }
            depth--;
            side = 1 - side;
            int move = made[depth];
            int from = move & 63;
            int to = move >> 6 & 63;
            int man = move >> 12 == 0 ? men[to] : PAWN + BLACK_MEN * side;
            lift(to);
            put(from, man);
            if (taken[depth] != 0) {
                put(takenAt[depth], taken[depth]);
            }
            if ((man & 7) == KING) {
                kings[side] = from;
                castleRook(from, to, false);
            }
            rights = rightsBefore[depth];
            passed = passedBefore[depth];
        }

        /** Only when it castles does a king go two squares. */
        private void castleRook(int from, int to, boolean forth) {
            if (Math.abs(to - from) != 2) {
                return;
            }
            int corner = from + (to > from ? SHORT_ROOK : LONG_ROOK);
            int crossed = (from + to) >> 1;
            int rook = forth ? men[corner] : men[crossed];
            lift(forth ? corner : crossed);
            put(forth ? crossed : corner, rook);
        }
    }

    /** Finds the moves of the side to move. */
    private static final class Mover {
        private final Board board;
        private final int[] men;

        /** By man: squares on which a man of the side to move would give check, or might. */
        private final long[] aims = new long[KING + 1];

        /** Men whose stepping aside would give check, if they are of the side to move. */
        private long hiding;

        Mover(Board board) {
            this.board = board;
            this.men = board.men;
        }

        /** All moves in order, those too that leave the king in check. */
        void fill(MoveRow row) {
            row.count = 0;
            long left = board.held[board.side];
            for (int i = 0; i < 64 && left != 0; i++) {
                int from = lowest(left);
                left &= left - 1;
                row.addAll(from, targets(from), (men[from] & 7) == PAWN);
            }
        }

        void fillLegal(MoveRow row) {
            fill(row);
            int kept = 0;
            for (int i = 0; i < row.count; i++) {
                board.make(row.told[i]);
                if (board.isLegal()) {
                    row.told[kept] = row.told[i];
                    kept++;
                }
                board.unmake();
            }
            row.count = kept;
        }

        /** All moves that give check, in order, and some that do not: what is left out gives none. */
        void fillChecks(MoveRow row) {
            takeAim();
            row.count = 0;
            long left = board.held[board.side];
            for (int i = 0; i < 64 && left != 0; i++) {
                int from = lowest(left);
                left &= left - 1;
                int man = men[from] & 7;
                long wanted = (hiding >> from & 1) != 0 ? -1 : aims[man];
                row.addAll(from, targets(from) & wanted, man == PAWN);
            }
        }

        /** The moves of one man alone. */
        void fillFrom(int from, MoveRow row) {
            row.count = 0;
            row.addAll(from, targets(from), (men[from] & 7) == PAWN);
        }

        /** Whether the side to move is beaten by that goal. */
        boolean isBeaten(int goal) {
            boolean checked = board.inCheck();
            if (checked != (goal == MATE)) {
                return false;
            }
            long left = board.held[board.side];
            // In check it is most often the king who can go, so he is looked at first.
            long first = checked ? 1L << board.kings[board.side] : 0;
            for (int i = 0; i < 64 && left != 0; i++) {
                int from = lowest(first != 0 ? first : left);
                left &= ~(1L << from);
                first = 0;
                if (canGo(from)) {
                    return false;
                }
            }
            return true;
        }

        /** What a pawn becomes does not bear on its own king, so a pawn is moved as it is. */
        private boolean canGo(int from) {
            long left = targets(from);
            for (int i = 0; i < 64 && left != 0; i++) {
                board.make(from + 64 * lowest(left));
                boolean legal = board.isLegal();
                board.unmake();
                if (legal) {
                    return true;
                }
                left &= left - 1;
            }
            return false;
        }

        private long targets(int from) {
            long open = ~board.held[board.side];
            switch (men[from] & 7) {
                case PAWN:
                    return pawnTargets(from);
                case KNIGHT:
                    return open & board.seen(from, LINE_WAYS, ALL_WAYS, 1);
                case BISHOP:
                    return open & board.seen(from, UP_RIGHT, LINE_WAYS, LONGEST_LINE);
                case ROOK:
                    return open & board.seen(from, UP, UP_RIGHT, LONGEST_LINE);
                case QUEEN:
                    return open & board.seen(from, UP, LINE_WAYS, LONGEST_LINE);
                default:
                    return open & board.seen(from, UP, LINE_WAYS, 1) | castlingTargets(from);
            }
        }

        private long pawnTargets(int from) {
            int side = board.side;
            long prey = board.held[1 - side] | passedBit();
            int aside = side == WHITE ? UP_RIGHT : DOWN_RIGHT;
            long all = prey & board.seen(from, aside, aside + 2, 1);
            int first = board.inFront(from, side);
            if (first < 0 || men[first] != 0) {
                return all;
            }
            all |= 1L << first;
            int second = board.inFront(first, side);
            boolean twice = from >> 3 == (side == WHITE ? 1 : 6) && second >= 0 && men[second] == 0;
            return twice ? all | 1L << second : all;
        }

        private long passedBit() {
            return board.passed >= 0 ? 1L << board.passed : 0;
        }

        /** A right says that the rook stands on its first square. */
        private long castlingTargets(int from) {
            boolean white = board.side == WHITE;
            int rights = white ? board.rights & 3 : board.rights >> 2;
            if (rights == 0 || from != (white ? WHITE_HOME : BLACK_HOME)) {
                return 0;
            }
            int other = 1 - board.side;
            long full = board.held[0] | board.held[1];
            boolean canShort = (rights & 1) != 0 && (full >> from & 6) == 0
                    && !board.attacked(from + 1, other);
            boolean canLong = (rights & 2) != 0 && (full >> (from - 3) & 7) == 0
                    && !board.attacked(from - 1, other);
            if (!canShort && !canLong || board.attacked(from, other)) {
                return 0;
            }
            return (canShort ? 1L << (from + 2) : 0) | (canLong ? 1L << (from - 2) : 0);
        }

        /** Rare moves count as checks without a closer look: to the last rank, in passing, castling. */
        private void takeAim() {
            int side = board.side;
            int king = board.kings[1 - side];
            long slanting = board.seen(king, UP_RIGHT, LINE_WAYS, LONGEST_LINE);
            long straight = board.seen(king, UP, UP_RIGHT, LONGEST_LINE);
            int behind = side == WHITE ? DOWN_RIGHT : UP_RIGHT;
            aims[PAWN] = board.seen(king, behind, behind + 2, 1) | END_RANKS | passedBit();
            aims[KNIGHT] = board.seen(king, LINE_WAYS, ALL_WAYS, 1);
            aims[BISHOP] = slanting;
            aims[ROOK] = straight;
            aims[QUEEN] = slanting | straight;
            aims[KING] = CASTLED_KINGS;
            hiding = board.shields(king, side);
        }

        static int lowest(long squares) {
            return Long.bitCount((squares & -squares) - 1);
        }
    }

    /** Looks for what solves a direct or self problem, and for what refutes a move. */
    private static final class Solver {
        private final Board board;
        private final Mover mover;
        private final MoveRow[] rows;

        /** By ply: the move that decided there last. It often decides again, so it is tried first. */
        private final int[] hints = new int[MOST_PLIES];

        private int kind;
        private int goal;

        Solver(Board board, Mover mover, MoveRow[] rows) {
            this.board = board;
            this.mover = mover;
            this.rows = rows;
        }

        /** Without hints the first reply that refutes is the first one in order. */
        void ask(int newKind, int newGoal) {
            kind = newKind;
            goal = newGoal;
            for (int ply = 0; ply < MOST_PLIES; ply++) {
                hints[ply] = NONE;
            }
        }

        /** Whether some legal move solves the problem in n moves. */
        boolean hasKey(int n, int ply) {
            if (n < 1 || ply >= MOST_PLIES) {
                return false;
            }
            MoveRow row = rows[ply];
            boolean last = kind == DIRECT && n == 1;
            if (last && goal == MATE) {
                mover.fillChecks(row);
            } else {
                mover.fill(row);
            }
            row.bringFirst(hints[ply]);
            for (int i = 0; i < row.count; i++) {
                int move = row.told[i];
                board.make(move);
                boolean solves = board.isLegal()
                        && (last ? mover.isBeaten(goal) : refutation(n, ply + 1) == NONE);
                board.unmake();
                if (solves) {
                    hints[ply] = move;
                    return true;
                }
            }
            return false;
        }

        /**
         * What refutes the legal move that was just made: a reply; NONE if the move solves the
         * problem; STUCK if it does not and there is no reply. The replies of one man are found at
         * a time, as the first one is often enough.
         */
        int refutation(int n, int ply) {
            if (ply >= MOST_PLIES) {
                return STUCK;
            }
            MoveRow row = rows[ply];
            boolean canReply = false;
            long left = board.held[board.side];
            int hint = hints[ply];
            long first = hint >= 0 ? left & 1L << (hint & 63) : 0;
            for (int i = 0; i < 64 && left != 0; i++) {
                int from = Mover.lowest(first != 0 ? first : left);
                left &= ~(1L << from);
                first = 0;
                mover.fillFrom(from, row);
                row.bringFirst(hint);
                for (int k = 0; k < row.count; k++) {
                    int reply = row.told[k];
                    board.make(reply);
                    boolean legal = board.isLegal();
                    boolean goesOn = legal
                            && (kind == SELF && mover.isBeaten(goal) || hasKey(n - 1, ply + 1));
                    board.unmake();
                    if (legal && !goesOn) {
                        hints[ply] = reply;
                        return reply;
                    }
                    canReply = canReply || legal;
                }
            }
            boolean beaten = kind == DIRECT && board.inCheck() == (goal == MATE);
            return canReply || beaten ? NONE : STUCK;
        }
    }

    /** Counts the help lines of the position and keeps some of them, one behind the other. */
    private static final class HelpLines {
        private static final int MOST_KEPT = 1024;
        private static final int LONGEST = 2 * MOST_HELP_MOVES;

        private final Board board;
        private final Mover mover;
        private final MoveRow[] rows;

        private final int[] path = new int[LONGEST];
        private final int[] kept = new int[LONGEST * MOST_KEPT];
        private int firstKept;

        private boolean known;
        private int goal;
        private int plies;
        int count;

        HelpLines(Board board, Mover mover, MoveRow[] rows) {
            this.board = board;
            this.mover = mover;
            this.rows = rows;
        }

        void forget() {
            known = false;
        }

        /**
         * Whether the lines are counted, and line i is kept if there is one. If not, all is made
         * ready for a walk that does so.
         */
        boolean knows(int newGoal, int n, int i) {
            int first = i - i % MOST_KEPT;
            boolean same = known && goal == newGoal && plies == 2 * n;
            if (same && (first == firstKept || i >= count)) {
                return true;
            }
            known = true;
            goal = newGoal;
            plies = 2 * n;
            firstKept = first;
            count = 0;
            return false;
        }

        int moveOf(int i, int j) {
            int at = LONGEST * (i - firstKept) + j;
            return at >= 0 && at < kept.length ? kept[at] : NONE;
        }

        /** Goes through all lines that begin with the moves made on the path. */
        void walk(int ply) {
            if (ply >= plies || ply >= LONGEST) {
                return;
            }
            MoveRow row = rows[ply];
            boolean last = ply == plies - 1;
            if (last && goal == MATE) {
                mover.fillChecks(row);
            } else {
                mover.fill(row);
            }
            for (int i = 0; i < row.count; i++) {
                path[ply] = row.told[i];
                board.make(row.told[i]);
                if (board.isLegal()) {
                    if (!last) {
                        walk(ply + 1);
                    } else if (mover.isBeaten(goal)) {
                        keepPath();
                    }
                }
                board.unmake();
            }
        }

        private void keepPath() {
            int at = count - firstKept;
            if (at >= 0 && at < MOST_KEPT) {
                for (int ply = 0; ply < LONGEST; ply++) {
                    kept[LONGEST * at + ply] = path[ply];
                }
            }
            count++;
        }
    }
}
