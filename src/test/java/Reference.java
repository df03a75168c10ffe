import java.util.ArrayList;
import java.util.List;

/**
 * A slow solver that follows the document's words one by one: squares are compared in pairs,
 * positions are copied, nothing is kept. It shares no code with MateProblems.
 */
final class Reference {
    private static final String LETTERS = ".PNBRQK..pnbrqk";

    final int[] men = new int[64];
    int side;
    int rights;
    int passed = -1;

    Reference() {
    }

    private Reference(Reference other) {
        System.arraycopy(other.men, 0, men, 0, 64);
        side = other.side;
        rights = other.rights;
        passed = other.passed;
    }

    /** The fault of a text; the position is in place when it is 0. */
    int read(String text) {
        if (!text.matches("[pnbrqkPNBRQK1-8/]+ [wb] (-|K?Q?k?q?) (-|[a-h][1-8]) (0|[1-9][0-9]{0,2}) [1-9][0-9]{0,2}")) {
            return 1;
        }
        String[] field = text.split(" ", -1);
        String[] ranks = field[0].split("/", -1);
        if (field[2].isEmpty() || ranks.length != 8) {
            return 1;
        }
        for (int i = 0; i < 8; i++) {
            if (ranks[i].matches(".*[0-9][0-9].*")) {
                return 1;
            }
            String squares = ranks[i];
            for (int d = 1; d <= 8; d++) {
                squares = squares.replace("" + d, "........".substring(0, d));
            }
            if (squares.length() != 8) {
                return 1;
            }
            for (int file = 0; file < 8; file++) {
                char c = squares.charAt(file);
                men[8 * (7 - i) + file] = c == '.' ? 0 : LETTERS.indexOf(c);
            }
        }
        side = field[1].equals("w") ? 0 : 1;
        for (int i = 0; i < 4; i++) {
            rights |= field[2].indexOf("KQkq".charAt(i)) >= 0 ? 1 << i : 0;
        }
        passed = field[3].equals("-") ? -1 : field[3].charAt(0) - 'a' + 8 * (field[3].charAt(1) - '1');
        return meaningFault();
    }

    private int meaningFault() {
        if (count(6) != 1 || count(14) != 1) {
            return 2;
        }
        for (int square = 0; square < 64; square++) {
            if ((square / 8 == 0 || square / 8 == 7) && men[square] % 8 == 1) {
                return 3;
            }
        }
        if (inCheck(1 - side)) {
            return 4;
        }
        int[] king = {4, 4, 60, 60};
        int[] rook = {7, 0, 63, 56};
        for (int i = 0; i < 4; i++) {
            int colour = i < 2 ? 0 : 8;
            if ((rights >> i & 1) == 1 && (men[king[i]] != 6 + colour || men[rook[i]] != 4 + colour)) {
                return 5;
            }
        }
        return passed == -1 || goodPassed() ? 0 : 6;
    }

    private boolean goodPassed() {
        if (side == 0) {
            return passed / 8 == 5 && men[passed] == 0 && men[passed - 8] == 9 && men[passed + 8] == 0
                    && pawnAttacks(0, passed);
        }
        return passed / 8 == 2 && men[passed] == 0 && men[passed + 8] == 1 && men[passed - 8] == 0
                && pawnAttacks(1, passed);
    }

    private int count(int man) {
        int n = 0;
        for (int m : men) {
            n += m == man ? 1 : 0;
        }
        return n;
    }

    private boolean pawnAttacks(int by, int square) {
        for (int from = 0; from < 64; from++) {
            if (men[from] == 1 + 8 * by && attacks(from, square)) {
                return true;
            }
        }
        return false;
    }

    private boolean attacks(int from, int to) {
        int files = to % 8 - from % 8;
        int ranks = to / 8 - from / 8;
        int wide = Math.abs(files);
        int high = Math.abs(ranks);
        boolean straight = wide == 0 ^ high == 0;
        boolean slanting = wide == high && wide > 0;
        switch (men[from]) {
            case 1:
                return wide == 1 && ranks == 1;
            case 9:
                return wide == 1 && ranks == -1;
            case 2: case 10:
                return wide * high == 2;
            case 3: case 11:
                return slanting && clear(from, to);
            case 4: case 12:
                return straight && clear(from, to);
            case 5: case 13:
                return (straight || slanting) && clear(from, to);
            case 6: case 14:
                return Math.max(wide, high) == 1;
            default:
                return false;
        }
    }

    private boolean clear(int from, int to) {
        int step = Integer.signum(to % 8 - from % 8) + 8 * Integer.signum(to / 8 - from / 8);
        for (int at = from + step; at != to; at += step) {
            if (men[at] != 0) {
                return false;
            }
        }
        return true;
    }

    private boolean attacked(int square, int by) {
        for (int from = 0; from < 64; from++) {
            if (men[from] != 0 && men[from] / 8 == by && attacks(from, square)) {
                return true;
            }
        }
        return false;
    }

    boolean inCheck(int who) {
        for (int square = 0; square < 64; square++) {
            if (men[square] == 6 + 8 * who) {
                return attacked(square, 1 - who);
            }
        }
        return false;
    }

    private boolean moves(int from, int to) {
        int man = men[from];
        if (man == 0 || man / 8 != side) {
            return false;
        }
        boolean empty = men[to] == 0;
        if (!empty && men[to] / 8 == side) {
            return false;
        }
        if (man % 8 == 1) {
            int up = side == 0 ? 8 : -8;
            boolean twice = to - from == 2 * up && from / 8 == (side == 0 ? 1 : 6);
            return attacks(from, to) && (!empty || to == passed)
                    || empty && to - from == up
                    || empty && twice && men[from + up] == 0;
        }
        return attacks(from, to) || castles(from, to);
    }

    private boolean castles(int from, int to) {
        int home = side == 0 ? 4 : 60;
        if (men[from] != 6 + 8 * side || from != home || Math.abs(to - from) != 2) {
            return false;
        }
        boolean isShort = to > from;
        int right = (isShort ? 1 : 2) << 2 * side;
        int rook = isShort ? home + 3 : home - 4;
        return (rights & right) != 0 && clear(home, rook) && !inCheck(side)
                && !attacked((from + to) / 2, 1 - side);
    }

    Reference behind(int move) {
        int from = move % 64;
        int to = move / 64 % 64;
        int m = move / 4096;
        Reference next = new Reference(this);
        if (men[from] % 8 == 1 && to == passed) {
            next.men[to + (side == 0 ? -8 : 8)] = 0;
        }
        if (men[from] % 8 == 6 && Math.abs(to - from) == 2) {
            next.men[(from + to) / 2] = 4 + 8 * side;
            next.men[to > from ? from + 3 : from - 4] = 0;
        }
        next.men[to] = m == 0 ? men[from] : m + 8 * side;
        next.men[from] = 0;
        int[] king = {4, 4, 60, 60};
        int[] rook = {7, 0, 63, 56};
        for (int i = 0; i < 4; i++) {
            if (from == king[i] || from == rook[i] || to == rook[i]) {
                next.rights &= ~(1 << i);
            }
        }
        next.side = 1 - side;
        next.passed = -1;
        if (men[from] % 8 == 1 && Math.abs(to - from) == 16 && next.pawnAttacks(1 - side, (from + to) / 2)) {
            next.passed = (from + to) / 2;
        }
        return next;
    }

    List<Integer> legal() {
        List<Integer> all = new ArrayList<>();
        for (int from = 0; from < 64; from++) {
            for (int to = 0; to < 64; to++) {
                if (!moves(from, to) || behind(from + 64 * to).inCheck(side)) {
                    continue;
                }
                boolean last = men[from] % 8 == 1 && (to < 8 || to > 55);
                for (int m = last ? 2 : 0; m <= (last ? 5 : 0); m++) {
                    all.add(from + 64 * to + 4096 * m);
                }
            }
        }
        return all;
    }

    boolean isBeaten(int goal) {
        return inCheck(side) == (goal == 0) && legal().isEmpty();
    }

    boolean solvedBy(int move, int kind, int goal, int n) {
        Reference then = behind(move);
        if (kind == 0 && then.isBeaten(goal)) {
            return true;
        }
        List<Integer> replies = then.legal();
        if (replies.isEmpty() || kind == 0 && n == 1) {
            return false;
        }
        for (int reply : replies) {
            if (!then.behind(reply).holds(kind, goal, n)) {
                return false;
            }
        }
        return true;
    }

    private boolean holds(int kind, int goal, int n) {
        return kind == 1 && isBeaten(goal) || n > 1 && !keys(kind, goal, n - 1, true).isEmpty();
    }

    List<Integer> keys(int kind, int goal, int n, boolean oneIsEnough) {
        List<Integer> all = new ArrayList<>();
        for (int move : legal()) {
            if ((all.isEmpty() || !oneIsEnough) && solvedBy(move, kind, goal, n)) {
                all.add(move);
            }
        }
        return all;
    }

    int refuted(int move, int kind, int goal, int n) {
        if (solvedBy(move, kind, goal, n)) {
            return -1;
        }
        Reference then = behind(move);
        for (int reply : then.legal()) {
            if (!then.behind(reply).holds(kind, goal, n)) {
                return reply;
            }
        }
        return -2;
    }

    /** All help lines in so many plies. */
    List<List<Integer>> lines(int goal, int plies) {
        List<List<Integer>> all = new ArrayList<>();
        if (plies == 0) {
            if (isBeaten(goal)) {
                all.add(new ArrayList<>());
            }
            return all;
        }
        for (int move : legal()) {
            for (List<Integer> rest : behind(move).lines(goal, plies - 1)) {
                rest.add(0, move);
                all.add(rest);
            }
        }
        return all;
    }
}
