/** Promises 2 to 4: type, cut and load, and the faults of a text. */
final class TextTest {
    private static final String LONE = "8/8/8/8/8/4k3/8/4K3 w - - 0 1";

    public static void main(String[] args) {
        typing();
        cutting();
        loading();
        failedLoading();
        form();
        meaning();
        rights();
        passedSquares();
        order();
        Check.end();
    }

    private static void typing() {
        MateProblems x = new MateProblems();
        long w = Check.word("abcdefgh");
        Check.due("type 0", x.type(w, 0), false);
        Check.due("type 9", x.type(w, 9), false);
        Check.due("type -1", x.type(w, -1), false);
        Check.due("type least int", x.type(w, Integer.MIN_VALUE), false);
        Check.due("type greatest int", x.type(w, Integer.MAX_VALUE), false);
        Check.due("character 31", x.type(31, 1), false);
        Check.due("character 127", x.type(127, 1), false);
        Check.due("character 128", x.type(128, 1), false);
        Check.due("character 255", x.type(-1L, 1), false);
        Check.due("a bad last one", x.type(Check.word("abcdefg") | 10L << 56, 8), false);
        Check.due("a bad first one", x.type(Check.word("abcdefgh") & ~255L, 8), false);
        Check.due("nothing was typed", x.cut(1), false);
        Check.due("character 32", x.type(32, 1), true);
        Check.due("character 126", x.type(126, 1), true);
        Check.due("what is above n does not count", x.type(0x0a00000000000041L, 1), true);
        Check.due("three characters", x.cut(4), false);
        Check.due("three characters", x.cut(3), true);
        for (int i = 3; i + 8 <= 100; i += 8) {
            Check.due("type at " + i, x.type(w, 8), true);
        }
        Check.due("99 characters", x.cut(99), true);
        Check.due("two more", x.type(w, 2), false);
        Check.due("still 99", x.cut(100), false);
        Check.due("one more", x.type(w, 1), true);
        Check.due("101", x.type(w, 1), false);
        Check.due("100 characters", x.cut(100), true);
    }

    private static void cutting() {
        MateProblems x = new MateProblems();
        Check.due("cut 0 of none", x.cut(0), true);
        Check.due("cut 1 of none", x.cut(1), false);
        Check.due("cut -1", x.cut(-1), false);
        Check.due("cut least int", x.cut(Integer.MIN_VALUE), false);
        Check.typeAll(x, LONE + "zzz");
        Check.due("cut too many", x.cut(LONE.length() + 4), false);
        Check.due("a false cut changes nothing", x.load(), 1);
        Check.due("cut the z", x.cut(LONE.length()), true);
        Check.due("load what is left", x.load(), 0);
        Check.due("load empties the text", x.cut(1), false);
        Check.due("an empty text", x.load(), 1);
    }

    private static void loading() {
        MateProblems x = new MateProblems();
        Check.play(x, "f2f3 e7e5 g2g4");
        Check.due("keys of black", x.keys(0, 0, 1), 1);
        Check.due("load", Check.loading(x, LONE), 0);
        Check.due("its moves", Check.legal(x), "e1d1 e1f1");
        Check.thrown("no move is made", IllegalStateException.class, x::back);
        Check.thrown("no keys are asked", IndexOutOfBoundsException.class, () -> x.key(0));
        Check.due("black to move", Check.loading(x, "8/8/8/8/8/4k3/8/4K3 b - - 999 999"), 0);
        Check.due("moves of black", Check.legal(x), "e3d3 e3f3 e3d4 e3e4 e3f4");
    }

    private static void failedLoading() {
        MateProblems x = new MateProblems();
        Check.play(x, "f2f3 e7e5 g2g4");
        Check.due("keys", Check.keys(x, 0, 0, 1), "d8h4");
        Check.due("a fault", Check.loading(x, LONE + "0000"), 1);
        Check.due("keys stay", x.key(0), Check.told("d8h4"));
        Check.due("the text stays", x.cut(LONE.length() + 4), true);
        Check.due("moves stay", x.back(), 2);
        Check.due("white is to move", x.play(Check.told("a2a3")), 3);
        Check.due("cut to what is good", x.cut(LONE.length()), true);
        Check.due("load", x.load(), 0);
        Check.due("two moves", x.moves(), 2);
    }

    private static void fault(int want, String... texts) {
        for (String text : texts) {
            Check.due("load " + text, Check.loading(new MateProblems(), text), want);
        }
    }

    private static void form() {
        fault(0, LONE, "8/8/8/8/8/4k3/8/4K3 w - - 999 999", "8/8/8/8/8/4k3/8/4K3 w - - 10 100",
                "rnbqkbnr/pppppppp/8/8/8/8/PPPPPPPP/RNBQKBNR w KQkq - 0 1",
                "1r1r1r1k/r1r1r1r1/1n1n1n1n/b1b1b1b1/8/8/1p1p1p1p/K7 w - - 0 1");
        fault(1, "", " ", "8", "8/8/8/8/8/4k3/8/4K3", "8/8/8/8/8/4k3/8/4K3 w - - 0",
                "8/8/8/8/8/4k3/8/4K3 w - - 0 ", LONE + " ", " " + LONE, LONE + " 1",
                "8/8/8/8/8/4k3/8/4K3  w - - 0 1", "8/8/8/8/8/4k3/8/4K3 w  - - 0 1");
        fault(1, "8/8/8/8/8/4k3/4K3 w - - 0 1", "8/8/8/8/8/8/8/4k3/4K3 w - - 0 1",
                "8/8/8/8/8/4k3/8/4K3/ w - - 0 1", "/8/8/8/8/8/4k3/8/4K3 w - - 0 1",
                "8/8/8/8/8/4k3/8/4K2 w - - 0 1", "8/8/8/8/8/4k3/8/4K4 w - - 0 1",
                "8/8/8/8/8/4k3/8/4K21 w - - 0 1", "44/8/8/8/8/4k3/8/4K3 w - - 0 1",
                "8/8/8/8/8/4k3/84K3 w - - 0 1", "8/rrrrrrrr8/8/8/8/4k3/4K3 w - - 0 1",
                "9/8/8/8/8/4k3/8/4K3 w - - 0 1", "08/8/8/8/8/4k3/8/4K3 w - - 0 1",
                "8/8/8/8/8/4k3/8/4K2x w - - 0 1", "8/8/8/8//4k3/8/4K3 w - - 0 1",
                "8/8/8/8/8/4k3/8/rrrrrrrrr w - - 0 1", "8/8/8/8/8/4k3/8/4K2. w - - 0 1");
        fault(1, "8/8/8/8/8/4k3/8/4K3 W - - 0 1", "8/8/8/8/8/4k3/8/4K3 x - - 0 1",
                "8/8/8/8/8/4k3/8/4K3 wb - - 0 1", "8/8/8/8/8/4k3/8/4K3 - - - 0 1",
                "8/8/8/8/8/4k3/8/4K3 w QK - 0 1", "8/8/8/8/8/4k3/8/4K3 w KK - 0 1",
                "8/8/8/8/8/4k3/8/4K3 w qk - 0 1", "8/8/8/8/8/4k3/8/4K3 w kQ - 0 1",
                "8/8/8/8/8/4k3/8/4K3 w K- - 0 1", "8/8/8/8/8/4k3/8/4K3 w -- - 0 1",
                "8/8/8/8/8/4k3/8/4K3 w KQkqK - 0 1", "8/8/8/8/8/4k3/8/4K3 w a - 0 1");
        fault(1, "8/8/8/8/8/4k3/8/4K3 w - e 0 1", "8/8/8/8/8/4k3/8/4K3 w - i6 0 1",
                "8/8/8/8/8/4k3/8/4K3 w - e9 0 1", "8/8/8/8/8/4k3/8/4K3 w - e0 0 1",
                "8/8/8/8/8/4k3/8/4K3 w - E6 0 1", "8/8/8/8/8/4k3/8/4K3 w - e66 0 1",
                "8/8/8/8/8/4k3/8/4K3 w - -- 0 1");
        fault(1, "8/8/8/8/8/4k3/8/4K3 w - - 00 1", "8/8/8/8/8/4k3/8/4K3 w - - 01 1",
                "8/8/8/8/8/4k3/8/4K3 w - - 1000 1", "8/8/8/8/8/4k3/8/4K3 w - - - 1",
                "8/8/8/8/8/4k3/8/4K3 w - - -1 1", "8/8/8/8/8/4k3/8/4K3 w - - x 1",
                "8/8/8/8/8/4k3/8/4K3 w - - 0 0", "8/8/8/8/8/4k3/8/4K3 w - - 0 01",
                "8/8/8/8/8/4k3/8/4K3 w - - 0 1000", "8/8/8/8/8/4k3/8/4K3 w - - 0 1x",
                "8/8/8/8/8/4k3/8/4K3 w - - 0 +1");
    }

    private static void meaning() {
        fault(2, "8/8/8/8/8/8/8/4K3 w - - 0 1", "8/8/8/8/8/4k3/8/8 w - - 0 1", "8/8/8/8/8/8/8/8 w - - 0 1",
                "8/8/8/8/8/4k3/8/K3K3 w - - 0 1", "k7/8/8/8/8/4k3/8/4K3 w - - 0 1");
        fault(3, "7P/8/8/8/8/4k3/8/4K3 w - - 0 1", "p7/8/8/8/8/4k3/8/4K3 w - - 0 1",
                "8/8/8/8/8/4k3/8/P3K3 w - - 0 1", "8/8/8/8/8/4k3/8/4K2p w - - 0 1");
        fault(0, "8/p6P/8/8/8/4k3/P6p/4K3 w - - 0 1");
        fault(4, "8/8/8/8/8/8/4k3/4K3 w - - 0 1", "8/8/8/8/8/8/4k3/4K3 b - - 0 1",
                "4k3/8/8/8/8/8/8/4RK2 w - - 0 1", "4k3/3P4/8/8/8/8/8/4K3 w - - 0 1",
                "4k3/8/8/8/8/8/3p4/4K3 b - - 0 1", "4k3/8/3N4/8/8/8/8/4K3 w - - 0 1",
                "4k3/8/8/8/B7/8/8/4K3 w - - 0 1");
        fault(0, "4k3/8/8/8/8/8/8/4RK2 b - - 0 1", "4k3/3P4/8/8/8/8/8/4K3 b - - 0 1",
                "3k4/3P4/8/8/8/8/8/4K3 w - - 0 1", "4k3/8/4p3/8/8/8/8/4RK2 w - - 0 1",
                "4k3/8/8/8/8/8/3p4/4K3 w - - 0 1");
    }

    private static void rights() {
        fault(0, "r3k2r/8/8/8/8/8/8/R3K2R w KQkq - 0 1", "4k2r/8/8/8/8/8/8/4K2R w Kk - 0 1",
                "r3k3/8/8/8/8/8/8/R3K3 b Qq - 0 1");
        fault(5, "r3k2r/8/8/8/8/8/8/R3K1R1 w KQkq - 0 1", "r3k2r/8/8/8/8/8/8/1R2K2R w KQkq - 0 1",
                "r3k1r1/8/8/8/8/8/8/R3K2R w KQkq - 0 1", "1r2k2r/8/8/8/8/8/8/R3K2R w KQkq - 0 1",
                "r3k2r/8/8/8/8/8/8/R2K3R w K - 0 1", "r3k2r/8/8/8/8/8/8/R2K3R w Q - 0 1",
                "r2k3r/8/8/8/8/8/8/R3K2R b k - 0 1", "r2k3r/8/8/8/8/8/8/R3K2R b q - 0 1",
                "4k3/8/8/8/8/8/8/4K1Nr w K - 0 1", "4k1nR/8/8/8/8/8/8/4K3 b k - 0 1",
                "R3k3/8/8/8/8/8/8/4K3 b q - 0 1");
    }

    private static void passedSquares() {
        fault(0, "4k3/8/8/3pP3/8/8/8/4K3 w - d6 0 1", "4k3/8/8/4Pp2/8/8/8/4K3 w - f6 0 1",
                "4k3/8/8/pP6/8/8/8/4K3 w - a6 0 1", "4k3/8/8/6Pp/8/8/8/4K3 w - h6 0 1",
                "4k3/8/8/8/3pP3/8/8/4K3 b - e3 0 1", "4k3/8/8/8/pP6/8/8/4K3 b - b3 0 1");
        fault(6, "4k3/8/8/3pP3/8/8/8/4K3 b - d6 0 1", "4k3/8/8/8/3pP3/8/8/4K3 w - e3 0 1",
                "4k3/8/8/3pP3/8/8/8/4K3 w - d5 0 1", "4k3/8/8/3pP3/8/8/8/4K3 w - d7 0 1",
                "4k3/8/8/3pP3/8/8/8/4K3 w - d3 0 1", "4k3/8/8/3pP3/8/8/8/4K3 w - a1 0 1",
                "4k3/8/8/3pP3/8/8/8/4K3 w - h8 0 1",
                "4k3/8/3b4/3pP3/8/8/8/4K3 w - d6 0 1",
                "4k3/3p4/8/3pP3/8/8/8/4K3 w - d6 0 1", "4k3/3N4/8/3pP3/8/8/8/4K3 w - d6 0 1",
                "4k3/8/8/3nP3/8/8/8/4K3 w - d6 0 1", "4k3/8/8/3PP3/8/8/8/4K3 w - d6 0 1",
                "4k3/8/8/3p4/8/8/8/4K3 w - d6 0 1", "4k3/8/8/P2p4/8/8/8/4K3 w - d6 0 1",
                "4k3/8/8/3pN3/8/8/8/4K3 w - d6 0 1", "4k3/8/8/p6P/8/8/8/4K3 w - a6 0 1",
                "4k3/8/8/8/3pP3/8/4N3/4K3 b - e3 0 1", "4k3/8/8/8/3pP3/4N3/8/4K3 b - e3 0 1",
                "4k3/8/8/8/4P3/8/8/4K3 b - e3 0 1",
                "4k3/8/8/8/8/8/3pP3/7K w - d3 0 1", "7k/3pP3/8/8/8/8/8/4K3 b - e6 0 1");
        // A pawn that is pinned attacks all the same.
        fault(0, "4r2k/8/8/3pP3/8/8/8/4K3 w - d6 0 1");
    }

    /** Where several faults are there, the first one counts. */
    private static void order() {
        fault(1, "P7/8/8/8/8/8/8/8 w K e4 0 01");
        fault(2, "P7/8/8/8/8/8/8/8 w K e4 0 1");
        fault(3, "P3k3/8/8/8/8/8/8/4RK2 w K e4 0 1");
        fault(4, "4k3/8/8/8/8/8/8/4RK2 w K e4 0 1");
        fault(5, "3k4/8/8/8/8/8/8/4RK2 w K e4 0 1");
        fault(6, "3k4/8/8/8/8/8/8/4RK2 w - e4 0 1");
    }
}
