import java.util.List;
import java.util.Random;

/** Random positions, with answers that a slow solver found by the document's words alone. */
final class ReferenceTest {
    private static final String LETTERS = ".PNBRQK..pnbrqk";

    /** Positions that have keys: their kind, goal and number of moves, and their men. */
    private static final String[] SOLVED = {
        "001 1KB2k2/r3q3/4P3/8/8/5q2/6p1/8 b", "002 kbK5/pp6/1P6/8/8/8/8/R7 w", "002 8/8/7k/2Q2P2/4P1R1/4K3/8/8 w",
        "002 Kb6/2k5/8/4P3/8/8/1p6/8 b", "003 8/8/8/7n/2k5/7p/3n4/K1b5 b", "003 7B/1P5k/7P/1p6/6B1/8/8/6K1 w",
        "011 7K/5k1p/8/5b1p/8/8/8/8 b", "012 8/8/8/8/8/8/3q2P1/K1bk4 b", "012 6k1/2Q5/8/8/8/3N4/8/3K4 w",
        "013 4b3/8/8/4P3/4k3/p1P5/P3P3/Kn6 b", "013 Kb6/2k5/8/4P3/8/8/1p6/8 b",
        "101 4r2k/3q1Q2/6Q1/3n4/3r4/3b4/1p3q2/3K4 w", "101 4r3/8/6Q1/Q7/8/b2p1Q2/1p3q1b/3K1k2 w",
        "102 4r2k/5Q2/6Q1/8/8/b3q3/1p1p4/4n2K w", "111 4r2k/8/6Q1/8/8/8/1b3q2/n2K4 w",
        "111 7k/5Q2/1pn3r1/6r1/8/6n1/1p3q2/3K4 w", "112 4r2k/8/4Q1Q1/8/8/8/1p3q2/3K4 w",
        "112 4r2k/5Q2/6Q1/8/1r3q2/4p3/1p3q2/3K4 w", "113 7k/5Q2/Rp4r1/6r1/8/8/1p3q1n/3K4 w"};

    private final Random random;

    private ReferenceTest(long seed) {
        random = new Random(seed);
    }

    public static void main(String[] args) {
        long seed = args.length > 0 ? Long.parseLong(args[0]) : 1;
        int many = args.length > 1 ? Integer.parseInt(args[1]) : 1;
        ReferenceTest test = new ReferenceTest(seed);
        test.texts(4000 * many);
        test.games(60 * many);
        test.problems(400 * many);
        test.deepProblems(60 * many);
        test.likeSolved(8 * many);
        Check.end();
    }

    /** A position of few men near one another; it may well have faults. */
    private String text(int men) {
        char[] board = ".".repeat(64).toCharArray();
        int black = put(board, 'k', random.nextInt(64));
        int corner = random.nextInt(3) == 0 ? new int[] {0, 7, 56, 63, 3, 60, 4}[random.nextInt(7)] : black;
        put(board, 'K', near(corner));
        for (int i = 0; i < men; i++) {
            put(board, "PPPNBRQpppnbrq".charAt(random.nextInt(14)), random.nextInt(3) > 0 ? near(black) : random.nextInt(64));
        }
        char side = random.nextBoolean() ? 'w' : 'b';
        String rights = "-";
        if (random.nextInt(3) == 0) {
            rights = homes(board);
        }
        String passed = random.nextInt(4) > 0 ? "-" : passed(board, side);
        return fields(board, side, rights, passed);
    }

    private int near(int square) {
        int file = Math.floorMod(square % 8 + random.nextInt(7) - 3, 8);
        int rank = Math.floorMod(square / 8 + random.nextInt(7) - 3, 8);
        return file + 8 * rank;
    }

    private int put(char[] board, char man, int square) {
        int at = square;
        boolean pawn = man == 'p' || man == 'P';
        while (board[at] != '.' || pawn && (at < 8 || at > 55)) {
            if (random.nextInt(500) == 0) {
                break;
            }
            at = random.nextInt(64);
        }
        if (board[at] != 'k' && board[at] != 'K') {
            board[at] = man;
        }
        return at;
    }

    /** Puts kings and rooks on their first squares and gives some rights. */
    private String homes(char[] board) {
        StringBuilder rights = new StringBuilder();
        int[] rooks = {7, 0, 63, 56};
        for (int i = 0; i < 64; i++) {
            board[i] = board[i] == 'k' || board[i] == 'K' ? '.' : board[i];
        }
        board[4] = 'K';
        board[60] = 'k';
        for (int i = 0; i < 4; i++) {
            if (random.nextInt(3) > 0) {
                board[rooks[i]] = i < 2 ? 'R' : 'r';
                rights.append("KQkq".charAt(i));
            }
        }
        return rights.length() == 0 || random.nextInt(6) == 0 ? "-" : rights.toString();
    }

    private String passed(char[] board, char side) {
        int file = random.nextInt(8);
        int beside = file == 0 || file < 7 && random.nextBoolean() ? file + 1 : file - 1;
        int rank = side == 'w' ? 4 : 3;
        replace(board, file + 8 * rank, side == 'w' ? 'p' : 'P');
        replace(board, beside + 8 * rank, side == 'w' ? 'P' : 'p');
        int target = file + 8 * (side == 'w' ? 5 : 2);
        if (random.nextInt(8) > 0) {
            replace(board, target, '.');
            replace(board, target + (side == 'w' ? 8 : -8), '.');
        }
        return "" + (char) ('a' + file) + (char) ('1' + target / 8);
    }

    private static void replace(char[] board, int at, char man) {
        if (board[at] != 'k' && board[at] != 'K') {
            board[at] = man;
        }
    }

    private static String fields(char[] board, char side, String rights, String passed) {
        return Check.men(board) + " " + side + " " + rights + " " + passed + " 0 1";
    }

    /** Texts with something wrong in their form. */
    private void texts(int many) {
        String letters = " /-0123456789wbKQkqPpNnRrBabcdefghx";
        for (int i = 0; i < many; i++) {
            StringBuilder text = new StringBuilder(text(random.nextInt(8)));
            for (int n = random.nextInt(3); n > 0; n--) {
                char c = letters.charAt(random.nextInt(letters.length()));
                int at = random.nextBoolean() ? random.nextInt(text.length()) : text.length() - 1 - random.nextInt(12);
                switch (random.nextInt(3)) {
                    case 0:
                        text.setCharAt(at, c);
                        break;
                    case 1:
                        text.insert(at, c);
                        break;
                    default:
                        text.deleteCharAt(at);
                        break;
                }
            }
            if (text.length() <= 100) {
                String t = text.toString();
                Check.due("load " + t, Check.loading(new MateProblems(), t), new Reference().read(t));
            }
        }
    }

    /** A text without faults; those with faults are compared on the way. */
    private String goodText(int men) {
        for (int i = 0; i < 100000; i++) {
            String text = text(men);
            int fault = new Reference().read(text);
            Check.due("load " + text, Check.loading(new MateProblems(), text), fault);
            if (fault == 0) {
                return text;
            }
        }
        throw new IllegalStateException("all texts have faults");
    }

    private static Reference position(String text) {
        Reference position = new Reference();
        Check.due("fault of " + text, position.read(text), 0);
        return position;
    }

    /** Games of a few moves and back again, within the calls that an object is made for. */
    private void games(int many) {
        for (int i = 0; i < many; i++) {
            String text = goodText(4 + random.nextInt(14));
            MateProblems x = Check.at(text);
            Reference[] was = new Reference[6];
            was[0] = position(text);
            int made = 0;
            while (made < 5 && !was[made].legal().isEmpty()) {
                sameMoves(x, was[made]);
                List<Integer> legal = was[made].legal();
                int move = legal.get(random.nextInt(legal.size()));
                was[made + 1] = was[made].behind(move);
                made++;
                Check.due("play", x.play(move), made);
            }
            sameMoves(x, was[made]);
            for (; made > 0; made--) {
                Check.due("back", x.back(), made - 1);
                Check.due("moves", x.moves(), was[made - 1].legal().size());
            }
            if (!was[0].legal().isEmpty()) {
                Check.due("the first move", x.move(0), was[0].legal().get(0));
            }
        }
    }

    private static void sameMoves(MateProblems x, Reference wanted) {
        List<Integer> legal = wanted.legal();
        int moves = x.moves();
        Check.due("moves", moves, legal.size());
        for (int k = 0; k < legal.size() && k < moves; k++) {
            Check.due("move " + k, x.move(k), legal.get(k));
        }
        Check.due("beaten", x.beaten(), wanted.isBeaten(0) ? 1 : wanted.isBeaten(1) ? 2 : 0);
    }

    private void problems(int many) {
        for (int i = 0; i < many; i++) {
            String text = goodText(1 + random.nextInt(5));
            MateProblems x = Check.at(text);
            Reference wanted = position(text);
            for (int kind = 0; kind < 2; kind++) {
                for (int goal = 0; goal < 2; goal++) {
                    sameProblem(x, wanted, kind, goal, 1);
                    if (wanted.legal().size() < 16) {
                        sameProblem(x, wanted, kind, goal, 2);
                    }
                }
            }
            for (int goal = 0; goal < 2; goal++) {
                sameLines(x, wanted, goal, 1);
                if (wanted.legal().size() < 6) {
                    sameLines(x, wanted, goal, 2);
                }
            }
        }
    }

    private void deepProblems(int many) {
        for (int i = 0; i < many;) {
            String text = goodText(1 + random.nextInt(4));
            MateProblems x = Check.at(text);
            Reference wanted = position(text);
            if (wanted.legal().size() < 8) {
                i++;
                sameProblem(x, wanted, random.nextInt(2), random.nextInt(2), 3);
            }
        }
    }

    /** Positions that have keys, and such as are made of them by moving a man or two. */
    private void likeSolved(int many) {
        for (String solved : SOLVED) {
            int kind = solved.charAt(0) - '0';
            int goal = solved.charAt(1) - '0';
            int n = solved.charAt(2) - '0';
            for (int i = 0; i < many; i++) {
                String text = shaken(solved.substring(4), i) + " - - 0 1";
                MateProblems x = new MateProblems();
                Reference wanted = new Reference();
                int fault = wanted.read(text);
                Check.due("load " + text, Check.loading(x, text), fault);
                if (fault == 0) {
                    sameProblem(x, wanted, kind, goal, n);
                }
            }
        }
    }

    private String shaken(String text, int times) {
        char[] board = ".".repeat(64).toCharArray();
        Reference position = new Reference();
        position.read(text + " - - 0 1");
        for (int square = 0; square < 64; square++) {
            board[square] = LETTERS.charAt(position.men[square]);
        }
        for (int i = 0; i < Math.min(times, 2);) {
            int at = random.nextInt(64);
            int to = near(at);
            if (board[at] != '.' && board[to] == '.') {
                board[to] = board[at];
                board[at] = '.';
                i++;
            }
        }
        return Check.men(board) + text.substring(text.length() - 2);
    }

    private void sameProblem(MateProblems x, Reference wanted, int kind, int goal, int n) {
        String what = describe(wanted) + " kind " + kind + " goal " + goal + " in " + n + ": ";
        List<Integer> keys = wanted.keys(kind, goal, n, false);
        Check.due(what + "keys", x.keys(kind, goal, n), keys.size());
        List<Integer> legal = wanted.legal();
        for (int tries = 0; tries < 3 && !legal.isEmpty(); tries++) {
            int k = random.nextInt(legal.size());
            Check.due(what + "refuted " + k, x.refuted(kind, goal, n, k), wanted.refuted(legal.get(k), kind, goal, n));
        }
        int least = 0;
        for (int m = n; m >= 1; m--) {
            least = wanted.keys(kind, goal, m, true).isEmpty() ? least : m;
        }
        Check.due(what + "least", x.least(kind, goal, n), least);
        for (int i = 0; i < keys.size(); i++) {
            Check.due(what + "key " + i, x.key(i), keys.get(i));
        }
        Check.thrown(what + "no more keys", IndexOutOfBoundsException.class, () -> x.key(keys.size()));
    }

    private void sameLines(MateProblems x, Reference wanted, int goal, int n) {
        String what = describe(wanted) + " goal " + goal + " in " + n + ": ";
        List<List<Integer>> lines = wanted.lines(goal, 2 * n);
        Check.due(what + "lines", x.lines(goal, n), lines.size());
        for (int tries = 0; tries < 4 && !lines.isEmpty(); tries++) {
            int i = random.nextInt(lines.size());
            for (int j = 0; j < 2 * n; j++) {
                Check.due(what + "line " + i + " " + j, x.line(goal, n, i, j), lines.get(i).get(j));
            }
        }
        Check.thrown(what + "no more lines", IndexOutOfBoundsException.class, () -> x.line(goal, n, lines.size(), 0));
    }

    private static String describe(Reference position) {
        char[] board = new char[64];
        for (int square = 0; square < 64; square++) {
            board[square] = LETTERS.charAt(position.men[square]);
        }
        return fields(board, "wb".charAt(position.side), "rights" + position.rights, "passed" + position.passed);
    }
}
