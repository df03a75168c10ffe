/** Sentence by sentence: what the document says at the edges of promises 1 to 4 and of texts. */
final class TextEdgesTest {
    private static final String FIRST = "rnbqkbnr/pppppppp/8/8/8/8/PPPPPPPP/RNBQKBNR w KQkq - 0 1";
    private static final String FIRST_MOVES = "b1a3 b1c3 g1f3 g1h3 a2a3 a2a4 b2b3 b2b4 c2c3 c2c4 d2d3 d2d4 "
            + "e2e3 e2e4 f2f3 f2f4 g2g3 g2g4 h2h3 h2h4";
    private static final String MEN = "8/8/8/8/8/4k3/8/4K3";
    private static final String LONE = MEN + " w - - 0 1";

    public static void main(String[] args) {
        newObject();
        newText();
        lowestByteFirst();
        typedNumber();
        typedTooMany();
        typedCharacters();
        typedInPart();
        cutKeeps();
        cutRefused();
        loaded();
        loadedBehindOthers();
        loadedAnew();
        notLoaded();
        sixFields();
        ranks();
        digits();
        letters();
        sides();
        rights();
        passedForm();
        clocks();
        numbers();
        longestText();
        kings();
        endPawns();
        otherInCheck();
        wrongRights();
        wrongPassed();
        firstFault();
        Check.end();
    }

    // Promise 1.

    private static void newObject() {
        Check.says("The usual first position: rnbqkbnr/pppppppp/8/8/8/8/PPPPPPPP/RNBQKBNR w KQkq - 0 1.");
        MateProblems x = new MateProblems();
        Check.due("white's moves", Check.legal(x), FIRST_MOVES);
        Check.due("beaten", x.beaten(), 0);
        Check.thrown("no move is made", IllegalStateException.class, x::back);
        Check.thrown("no keys are asked", IndexOutOfBoundsException.class, () -> x.key(0));
        Check.play(x, "e2e4");
        Check.due("black's moves", Check.legal(x), "a7a5 a7a6 b7b5 b7b6 c7c5 c7c6 d7d5 d7d6 e7e5 e7e6 f7f5 f7f6 "
                + "g7g5 g7g6 h7h5 h7h6 b8a6 b8c6 g8f6 g8h6");
        MateProblems y = new MateProblems();
        Check.play(y, "a2a3 b8c6 a3a4 c6b4 a4a5 b4d3");
        Check.due("white's king is on e1", Check.legal(y), "c2d3 e2d3");
        MateProblems z = new MateProblems();
        Check.play(z, "b1c3 a7a6 c3b5 a6a5 b5d6");
        Check.due("black's king is on e8", Check.legal(z), "c7d6 e7d6");
        sameAsLoaded("g1f3 g8f6 g2g3 g7g6 f1g2 f8g7 e1g1 e8g8");
        sameAsLoaded("b1c3 b8c6 d2d3 d7d6 c1d2 c8d7 d1b1 d8b8");
        sameAsLoaded("e2e4 a7a6 e4e5 d7d5 e5d6 e7d6 d1e2 d8e7");
    }

    private static void sameAsLoaded(String moves) {
        MateProblems made = new MateProblems();
        MateProblems loaded = Check.at(FIRST);
        for (String move : moves.split(" ")) {
            Check.due("play " + move, made.play(Check.told(move)), loaded.play(Check.told(move)));
            Check.due("the moves behind " + move, Check.legal(made), Check.legal(loaded));
        }
    }

    private static void newText() {
        Check.says("The text is empty.");
        MateProblems x = new MateProblems();
        Check.due("cut 1", x.cut(1), false);
        Check.due("cut 0", x.cut(0), true);
        Check.due("load", x.load(), 1);
        Check.due("still the first position", Check.legal(x), FIRST_MOVES);
        MateProblems y = new MateProblems();
        Check.typeAll(y, LONE);
        Check.due("nothing is before what is typed", y.load(), 0);
    }

    // Promise 2.

    private static void lowestByteFirst() {
        Check.says("n characters come behind the text, the lowest byte of w first.");
        for (int size = 1; size <= 8; size++) {
            MateProblems x = new MateProblems();
            for (int i = 0; i < LONE.length(); i += size) {
                String part = LONE.substring(i, Math.min(LONE.length(), i + size));
                Check.due("type " + part, x.type(Check.word(part), part.length()), true);
            }
            Check.due("load what was typed by " + size, x.load(), 0);
            Check.due("its moves", Check.legal(x), "e1d1 e1f1");
        }
        MateProblems y = new MateProblems();
        Check.typeAll(y, MEN + " ");
        Check.due("w, space, minus", y.type('w' | ' ' << 8 | '-' << 16, 3), true);
        Check.typeAll(y, " - 0 1");
        Check.due("load", y.load(), 0);
    }

    private static void typedNumber() {
        Check.says("False, changing nothing, when n is not 1 .. 8");
        MateProblems x = new MateProblems();
        Check.typeAll(x, LONE);
        for (int n : new int[] {0, -1, -8, 9, 16, 64, Integer.MIN_VALUE, Integer.MIN_VALUE + 1, Integer.MAX_VALUE}) {
            Check.due("type " + n, x.type(Check.word("11111111"), n), false);
        }
        Check.due("no character more", x.cut(LONE.length() + 1), false);
        Check.due("none less", x.cut(LONE.length()), true);
        Check.due("load", x.load(), 0);
        MateProblems y = new MateProblems();
        Check.due("type 1", y.type(Check.word("abcdefgh"), 1), true);
        Check.due("one", y.cut(2), false);
        Check.due("type 8", y.type(Check.word("abcdefgh"), 8), true);
        Check.due("nine", y.cut(9), true);
    }

    private static void typedTooMany() {
        Check.says("False, changing nothing, when .. there would be more than 100");
        long w = Check.word("        ");
        for (int before = 92; before <= 100; before++) {
            for (int n = 1; n <= 8; n++) {
                MateProblems x = new MateProblems();
                Check.typeAll(x, " ".repeat(before));
                boolean fits = before + n <= 100;
                Check.due(n + " behind " + before, x.type(w, n), fits);
                int now = fits ? before + n : before;
                Check.due("not more than " + now, x.cut(now + 1), false);
                Check.due("not less than " + now, x.cut(now), true);
            }
        }
        MateProblems y = new MateProblems();
        Check.typeAll(y, LONE + " ".repeat(100 - LONE.length()));
        Check.due("full", y.type(w, 1), false);
        Check.due("cut", y.cut(LONE.length()), true);
        Check.due("what was first is still there", y.load(), 0);
    }

    private static void typedCharacters() {
        Check.says("False, changing nothing, when .. one is not 32 .. 126");
        MateProblems x = new MateProblems();
        int typed = 0;
        for (int c = 0; c < 256; c++) {
            boolean good = c >= 32 && c <= 126;
            Check.due("character " + c, x.type(c, 1), good);
            typed += good ? 1 : 0;
        }
        Check.due("all 95", x.cut(typed + 1), false);
        Check.due("all 95", x.cut(typed), true);
        for (int bad : new int[] {0, 31, 127, 128, 160, 255}) {
            for (int at = 0; at < 8; at++) {
                MateProblems y = new MateProblems();
                long w = Check.word("abcdefgh") & ~(255L << 8 * at) | (long) bad << 8 * at;
                Check.due("character " + bad + " at " + at, y.type(w, 8), false);
                Check.due("nothing was typed", y.cut(1), false);
            }
        }
    }

    private static void typedInPart() {
        Check.says("n characters come behind the text: other bytes of w do not count");
        for (int n = 1; n < 8; n++) {
            for (int other : new int[] {0, 31, 127, 255}) {
                MateProblems x = new MateProblems();
                Check.due("type " + n, x.type(Check.word("abcdefgh") & ~(255L << 8 * n) | (long) other << 8 * n, n), true);
                Check.due("just " + n, x.cut(n + 1), false);
                Check.due("just " + n, x.cut(n), true);
            }
        }
        MateProblems y = new MateProblems();
        Check.due("all bits above", y.type(-256L | 'a', 1), true);
        Check.due("the least w", y.type(Long.MIN_VALUE | 'a', 1), true);
        Check.due("no bit", y.type(0, 1), false);
    }

    // Promise 3.

    private static void cutKeeps() {
        Check.says("The text keeps its first n characters.");
        MateProblems x = new MateProblems();
        Check.typeAll(x, LONE + "23456");
        Check.due("to its own length", x.cut(LONE.length() + 5), true);
        Check.due("nothing was lost", x.load(), 1);
        Check.due("two less", x.cut(LONE.length() + 3), true);
        Check.due("the first ones are kept", x.cut(LONE.length()), true);
        Check.due("what was cut is gone", x.cut(LONE.length() + 1), false);
        Check.due("load", x.load(), 0);
        MateProblems y = new MateProblems();
        Check.typeAll(y, "zzz");
        Check.due("to nothing", y.cut(0), true);
        Check.due("empty", y.cut(1), false);
        Check.typeAll(y, MEN + " b");
        Check.due("one less", y.cut(MEN.length() + 1), true);
        Check.typeAll(y, "w - - 0 1");
        Check.due("typed behind what was kept", y.load(), 0);
        Check.due("white is to move", Check.legal(y), "e1d1 e1f1");
    }

    private static void cutRefused() {
        Check.says("False when n is negative, or it has not so many.");
        MateProblems x = new MateProblems();
        Check.typeAll(x, LONE);
        for (int n : new int[] {-1, -2, -100, Integer.MIN_VALUE, LONE.length() + 1, 100, 101, Integer.MAX_VALUE}) {
            Check.due("cut " + n, x.cut(n), false);
        }
        Check.due("load", x.load(), 0);
        MateProblems y = new MateProblems();
        Check.due("cut 1 of nothing", y.cut(1), false);
        Check.due("cut -1 of nothing", y.cut(-1), false);
        Check.due("cut 0 of nothing", y.cut(0), true);
        Check.typeAll(y, "x".repeat(100));
        Check.due("cut 101 of 100", y.cut(101), false);
        Check.due("cut 100 of 100", y.cut(100), true);
        Check.due("cut 99 of 100", y.cut(99), true);
        Check.due("cut 100 of 99", y.cut(100), false);
    }

    // Promise 4.

    private static void loaded() {
        Check.says("The position that the text tells is there (no moves are made in it), the text empty then: 0.");
        MateProblems x = new MateProblems();
        Check.play(x, "e2e4 e7e5");
        Check.typeAll(x, LONE);
        Check.due("load", x.load(), 0);
        Check.due("its moves", Check.legal(x), "e1d1 e1f1");
        Check.thrown("no moves are made in it", IllegalStateException.class, x::back);
        Check.due("the text is empty", x.cut(1), false);
        Check.due("an empty text", x.load(), 1);
        Check.due("the position stays", Check.legal(x), "e1d1 e1f1");
        Check.due("black to move", Check.loading(x, MEN + " b - - 0 1"), 0);
        Check.due("its moves", Check.legal(x), "e3d3 e3f3 e3d4 e3e4 e3f4");
    }

    /** Nothing is left of what was loaded before: men, side, rights, passed square. */
    private static void loadedBehindOthers() {
        Check.says("The position that the text tells is there: and no other one");
        String[] texts = {"rnbqkbnr/pppppppp/bbbbbbbb/nnnnnnnn/NNNNNNNN/BBBBBBBB/PPPPPPPP/RNBQKBNR b KQkq - 0 1",
            "RNBQ1BNR/PPPPPPPP/BBBBBBBB/NNNNNNNN/NNNNNNNN/BBBBBBBB/PPP1PPP1/k1K1RBNR w - - 0 1",
            "r3k2r/8/8/1Pp5/8/8/8/R3K2R w KQkq c6 0 1", "r3k2r/8/8/8/1pP5/8/8/R3K2R b KQkq c3 0 1", MEN + " b - - 0 1", LONE,
            "8/8/8/1Pp5/8/4k3/8/4K3 w - - 0 1", "r3k2r/8/8/8/8/8/8/R3K2R w - - 0 1", "8/8/8/8/8/4k3/8/4K3 w - - 5 5", "rrrr4/8/8/8/8/8/8/K6k w - - 0 1"};
        for (String before : texts) {
            for (String text : texts) {
                MateProblems x = new MateProblems();
                int fault = Check.loading(x, before);
                Check.due("load " + text + " behind " + before, Check.loading(x, text), Check.loading(new MateProblems(), text));
                MateProblems alone = new MateProblems();
                if (fault != 0) {
                    Check.due("the other text has a fault", new Reference().read(before), fault);
                }
                if (Check.loading(alone, text) == 0) {
                    Check.due(text + " behind " + before, Check.legal(x), Check.legal(alone));
                }
            }
        }
    }

    private static void loadedAnew() {
        Check.says("(No move is made then, no keys are asked.)");
        MateProblems x = new MateProblems();
        Check.play(x, "f2f3 e7e5 g2g4");
        Check.due("a key", x.keys(0, 0, 1), 1);
        Check.due("load", Check.loading(x, FIRST), 0);
        Check.thrown("no keys are asked", IndexOutOfBoundsException.class, () -> x.key(0));
        Check.thrown("no move is made", IllegalStateException.class, x::back);
        String[] moves = {"g1f3", "g8f6", "f3g1", "f6g8", "g1f3", "g8f6", "f3g1", "f6g8"};
        for (int i = 0; i < 8; i++) {
            Check.due("move " + i, x.play(Check.told(moves[i])), i + 1);
        }
        Check.due("load with eight made", Check.loading(x, LONE), 0);
        Check.due("counted from load on", x.play(Check.told("e1d1")), 1);
        Check.due("back", x.back(), 0);
        Check.thrown("no more", IllegalStateException.class, x::back);
    }

    private static void notLoaded() {
        Check.says("Otherwise the FAULT, and nothing changes (the text stays).");
        String[] bad = {MEN + " w - - 0 0", "8/8/8/8/8/8/8/4K3 w - - 0 1", "P7/8/8/8/8/4k3/8/4K3 w - - 0 1",
            "4k3/8/8/8/8/8/8/4RK2 w - - 0 1", MEN + " w K - 0 1", MEN + " w - e6 0 1"};
        for (int i = 0; i < bad.length; i++) {
            MateProblems x = new MateProblems();
            Check.play(x, "f2f3 e7e5 g2g4");
            Check.due("keys", x.keys(0, 0, 1), 1);
            String before = Check.legal(x);
            Check.due("load " + bad[i], Check.loading(x, bad[i]), i + 1);
            Check.due("load again", x.load(), i + 1);
            Check.due("moves", Check.legal(x), before);
            Check.due("beaten", x.beaten(), 0);
            Check.due("the key", Check.written(x.key(0)), "d8h4");
            Check.due("the text is no longer", x.cut(bad[i].length() + 1), false);
            Check.due("the text is no shorter", x.cut(bad[i].length()), true);
            Check.due("lines", x.lines(0, 1), 0);
            Check.due("three moves are made", x.back(), 2);
            Check.due("it is white's move", x.play(Check.told("e1f2")), 3);
        }
        MateProblems y = new MateProblems();
        Check.due("a fault behind the men", Check.loading(y, MEN + " b - - 0 x"), 1);
        Check.due("nothing of it is there", Check.legal(y), FIRST_MOVES);
        Check.due("the text stays", y.cut(MEN.length()), true);
        Check.typeAll(y, " w - - 0 1");
        Check.due("mended", y.load(), 0);
    }

    // The form of a text.

    private static void fault(int want, String... texts) {
        for (String text : texts) {
            Check.due("load '" + text + "'", Check.loading(new MateProblems(), text), want);
        }
    }

    private static void sixFields() {
        Check.says("THE TEXT OF A POSITION has six FIELDS with one space between");
        fault(0, LONE);
        for (int i = 0; i < LONE.length(); i++) {
            fault(1, LONE.substring(0, i));
        }
        fault(1, " ", " " + LONE, LONE + " ", LONE + " -", LONE + " 1", LONE + LONE);
        for (int i = 0; i < LONE.length(); i++) {
            if (LONE.charAt(i) == ' ') {
                fault(1, LONE.substring(0, i) + LONE.substring(i + 1), LONE.substring(0, i) + " " + LONE.substring(i),
                        LONE.substring(0, i) + "_" + LONE.substring(i + 1), LONE.substring(0, i) + "/" + LONE.substring(i + 1));
            }
        }
        fault(1, MEN + " w - 0 1", MEN + " w  - 0 1", MEN + " - - 0 1", MEN + "  - - 0 1", "w - - 0 1", " w - - 0 1",
                MEN + " w - - 1", MEN + " w - -  1", MEN + " w -  0 1", MEN + " w - - 0 ");
    }

    private static void ranks() {
        Check.says("the men by ranks from 7 down to 0 with / between .. (each rank has just eight squares)");
        String[] rank = MEN.split("/");
        for (int i = 0; i < 8; i++) {
            fault(1, with(rank, i, ""), with(rank, i, "7"), with(rank, i, "7rr"), with(rank, i, "rrrrrrr"),
                    with(rank, i, "rrrrrrrrr"), with(rank, i, "r8"), with(rank, i, "8r"), with(rank, i, "rrrrrrr2"),
                    with(rank, i, "8/8"), with(rank, i, "8/"), with(rank, i, "/8"), with(rank, i, "4 4"), with(rank, i, "4-3"));
        }
        fault(1, "8/8/8/8/8/4k3/4K3 w - - 0 1", "8/8/8/8/8/8/8/4k3/4K3 w - - 0 1", "4k3/4K3 w - - 0 1", "/ w - - 0 1",
                "8.8/8/8/8/4k3/8/4K3 w - - 0 1", "888888884k384K3 w - - 0 1", "8/8/8/8/8/4k3/84K3 w - - 0 1");
        Check.due("rank 7 is first, file 0 too", Check.legal(Check.at("K7/8/8/8/8/8/8/7k w - - 0 1")), "a8a7 a8b7 a8b8");
        Check.due("rank 0 is last, file 7 too", Check.legal(Check.at("K7/8/8/8/8/8/8/7k b - - 0 1")), "h1g1 h1g2 h1h2");
    }

    private static String with(String[] rank, int at, String other) {
        String[] all = rank.clone();
        all[at] = other;
        return String.join("/", all) + " w - - 0 1";
    }

    private static void digits() {
        Check.says("digits 1 .. 8 for so many empty squares (no two digits one behind the other)");
        for (int d = 1; d < 8; d++) {
            String tail = "nnnnnnnn".substring(d);
            fault(0, d + tail + "/8/8/8/8/4k3/8/4K3 w - - 0 1", tail + d + "/8/8/8/8/4k3/8/4K3 w - - 0 1");
            fault(1, d + "" + (8 - d) + "/8/8/8/8/4k3/8/4K3 w - - 0 1", MEN.replace("4k3", d + "" + (8 - d)) + " w - - 0 1",
                    "8/8/8/8/8/4k3/8/3K" + (d > 4 ? "13" : "22") + " w - - 0 1");
        }
        fault(1, "9/8/8/8/8/4k3/8/4K3 w - - 0 1", "0nnnnnnnn/8/8/8/8/4k3/8/4K3 w - - 0 1",
                "nnnnnnnn0/8/8/8/8/4k3/8/4K3 w - - 0 1", "80/8/8/8/8/4k3/8/4K3 w - - 0 1",
                "0n7/8/8/8/8/4k3/8/4K3 w - - 0 1", "n0n6/8/8/8/8/4k3/8/4K3 w - - 0 1", "8/8/8/8/8/4k3/8/4K0N2 w - - 0 1",
                "08/8/8/8/8/4k3/8/4K3 w - - 0 1", "1n1n11n1/8/8/8/8/4k3/8/4K3 w - - 0 1", "11n5/8/8/8/8/4k3/8/4K3 w - - 0 1");
        fault(0, "n6n/1n1n1n1n/n1n1n1n1/2n2n2/3nn3/4k3/8/4K3 b - - 0 1");
    }

    private static void letters() {
        Check.says("as P N B R Q K for white and p n b r q k for black");
        for (char c = 32; c < 127; c++) {
            if ("PNBRQKpnbrqk7".indexOf(c) < 0 && c != '/') {
                fault(1, "8/8/7" + c + "/8/8/4k3/8/4K3 w - - 0 1", "8/8/" + c + "7/8/8/4k3/8/4K3 w - - 0 1");
            }
        }
        fault(2, "8/8/7K/8/8/4k3/8/4K3 w - - 0 1", "8/8/7k/8/8/4k3/8/4K3 w - - 0 1");
        letter("P", "d4d5");
        letter("N", "d4c2 d4e2 d4b3 d4f3 d4b5 d4f5 d4c6 d4e6");
        letter("B", "d4a1 d4g1 d4b2 d4f2 d4c3 d4e3 d4c5 d4e5 d4b6 d4f6 d4a7 d4g7 d4h8");
        letter("R", "d4d1 d4d2 d4d3 d4a4 d4b4 d4c4 d4e4 d4f4 d4g4 d4h4 d4d5 d4d6 d4d7 d4d8");
        letter("Q", "d4a1 d4d1 d4g1 d4b2 d4d2 d4f2 d4c3 d4d3 d4e3 d4a4 d4b4 d4c4 d4e4 d4f4 d4g4 d4h4 d4c5 d4d5 d4e5 d4b6 d4d6 "
                + "d4f6 d4a7 d4d7 d4g7 d4d8 d4h8");
    }

    /** A man on d4, who is white's or black's by the case of his letter, and goes only when that side is to move. */
    private static void letter(String man, String moves) {
        String text = "8/7k/8/8/3" + man + "4/8/7K/8";
        Check.due("white's " + man, Check.legalFrom(Check.at(text + " w - - 0 1"), "d4"), moves);
        Check.due("black does not move it", Check.legalFrom(Check.at(text + " b - - 0 1"), "d4"), "");
        String small = text.replace(man, man.toLowerCase());
        Check.due("black's " + man, Check.legalFrom(Check.at(small + " b - - 0 1"), "d4"), man.equals("P") ? "d4d3" : moves);
        Check.due("white does not move it", Check.legalFrom(Check.at(small + " w - - 0 1"), "d4"), "");
    }

    private static void sides() {
        Check.says("w or b");
        for (char c = 33; c < 127; c++) {
            fault(c == 'w' || c == 'b' ? 0 : 1, MEN + " " + c + " - - 0 1");
        }
        fault(1, MEN + " wb - - 0 1", MEN + " bw - - 0 1", MEN + " ww - - 0 1", MEN + " white - - 0 1");
    }

    private static void rights() {
        Check.says("the rights in the order K Q k q, or -");
        String castle = "r3k2r/8/8/8/8/8/8/R3K2R w ";
        for (int set = 1; set < 16; set++) {
            StringBuilder some = new StringBuilder();
            for (int i = 0; i < 4; i++) {
                some.append((set >> i & 1) == 1 ? "KQkq".substring(i, i + 1) : "");
            }
            fault(0, castle + some + " - 0 1");
            fault(1, castle + some + "- - 0 1", castle + "-" + some + " - 0 1", castle + some + some + " - 0 1");
            if (some.length() > 1) {
                fault(1, castle + some.reverse() + " - 0 1");
            }
        }
        fault(0, castle + "- - 0 1");
        fault(1, castle + " - 0 1", castle + "-- - 0 1", castle + "KK - 0 1", castle + "KkQq - 0 1", castle + "KQqk - 0 1",
                castle + "QKkq - 0 1", castle + "kqKQ - 0 1", castle + "0 - 0 1", castle + "HAha - 0 1", castle + "kK - 0 1");
    }

    private static void passedForm() {
        Check.says("the passed square (file a .. h, rank 1 .. 8) or -");
        for (char file = 'a'; file <= 'h'; file++) {
            for (char rank = '1'; rank <= '8'; rank++) {
                fault(6, MEN + " w - " + file + rank + " 0 1");
            }
            fault(1, MEN + " w - " + file + "0 0 1", MEN + " w - " + file + "9 0 1", MEN + " w - " + file + " 0 1",
                    MEN + " w - " + file + file + " 0 1");
        }
        for (char rank = '1'; rank <= '8'; rank++) {
            fault(1, MEN + " w - i" + rank + " 0 1", MEN + " w - `" + rank + " 0 1", MEN + " w - A" + rank + " 0 1",
                    MEN + " w - " + rank + " 0 1", MEN + " w - -" + rank + " 0 1", MEN + " w - " + rank + "a 0 1");
        }
        fault(1, MEN + " w - e6e6 0 1", MEN + " w - e66 0 1", MEN + " w - ee6 0 1", MEN + " w - e6- 0 1", MEN + " w - -e6 0 1",
                MEN + " w - -- 0 1");
    }

    private static void clocks() {
        Check.says("the clock, a number 0 .. 999 .. (numbers without a 0 before another digit)");
        for (String good : new String[] {"0", "1", "9", "10", "50", "99", "100", "101", "909", "990", "998", "999"}) {
            fault(0, MEN + " w - - " + good + " 1", MEN + " b - - " + good + " 1");
        }
        for (String bad : new String[] {"", "00", "000", "01", "09", "010", "099", "0999", "1000", "9999", "10000000000", "-1", "-0",
            "+1", "-", "x", "1x", "x1", "1x1", "1.0", "/", ":", "1/", "1:", "1/1", "9:9", "0x1"}) {
            fault(1, MEN + " w - - " + bad + " 1");
        }
    }

    private static void numbers() {
        Check.says("the number of the move, 1 .. 999 (numbers without a 0 before another digit)");
        for (String good : new String[] {"1", "2", "9", "10", "99", "100", "909", "998", "999"}) {
            fault(0, MEN + " w - - 0 " + good, MEN + " b - - 999 " + good);
        }
        for (String bad : new String[] {"", "0", "00", "01", "001", "010", "099", "1000", "9999", "10000000000", "-1", "+1", "-", "x",
            "1x", "x1", "1x1", "1 ", " 1", "/", ":", "1/", "1:", "1/1", "9:9", "1-"}) {
            fault(1, MEN + " w - - 0 " + bad);
        }
    }

    private static void longestText() {
        Check.says("each rank has just eight squares: all of them may be held");
        String full = "rnbqkbnr/pppppppp/bbbbbbbb/nnn1nnnn/nnpPnnnn/BBBBBBBB/PPPPPPPP/RNBQKBNR w KQkq - 999 999";
        MateProblems x = Check.at(full);
        Check.due("moves", x.moves() > 0, true);
        String shut = "rnbqkbnr/pppppppp/pppppppp/pppppppp/PPPPPPPP/PPPPPPPP/PPPPPPPP/RNBQKBNR w KQkq - 999 999";
        Check.due("pawns only take", Check.at(shut).moves(), 14);
        MateProblems y = new MateProblems();
        Check.typeAll(y, LONE + "9".repeat(100 - LONE.length()));
        Check.due("a full text that is not written so", y.load(), 1);
        Check.due("it stays", y.cut(100), true);
        Check.due("cut", y.cut(LONE.length() + 2), true);
        Check.due("the number is 199", y.load(), 0);
    }

    // Faults.

    private static void kings() {
        Check.says("2 there is not just one king of each side");
        fault(2, "8/8/8/8/8/8/8/8 w - - 0 1", "8/8/8/8/8/8/8/4K3 w - - 0 1", "8/8/8/8/8/8/8/4k3 w - - 0 1",
                "8/8/8/8/8/8/8/4K3 b - - 0 1", "8/8/8/8/8/8/8/4k3 b - - 0 1", "K6K/8/8/8/8/8/8/7k w - - 0 1",
                "k6k/8/8/8/8/8/8/7K w - - 0 1", "K6K/8/8/8/8/8/8/k6k b - - 0 1", "K6K/8/8/8/8/8/8/8 w - - 0 1",
                "k6k/8/8/8/8/8/8/8 w - - 0 1", "KKKKKKKK/8/8/8/8/8/8/k7 b - - 0 1", "qqqqqqqq/8/8/8/8/8/8/K7 b - - 0 1");
        for (int a = 0; a < 64; a++) {
            fault(0, two('K', a, 'k', (a + 34) % 64), two('k', a, 'K', (a + 34) % 64));
            fault(2, two('K', a, 'N', (a + 34) % 64), two('k', a, 'n', (a + 34) % 64));
        }
    }

    /** A text with two men alone. */
    private static String two(char man, int at, char other, int otherAt) {
        char[] board = ".".repeat(64).toCharArray();
        board[at] = man;
        board[otherAt] = other;
        return Check.men(board) + " w - - 0 1";
    }

    private static void endPawns() {
        Check.says("3 a pawn is on rank 0 or 7");
        for (int square = 0; square < 64; square++) {
            for (char pawn : new char[] {'P', 'p'}) {
                char[] board = ".".repeat(64).toCharArray();
                int kings = square / 8 < 4 ? 40 : 16;
                board[kings] = 'K';
                board[kings + 7] = 'k';
                board[square] = pawn;
                fault(square / 8 == 0 || square / 8 == 7 ? 3 : 0, Check.men(board) + " w - - 0 1", Check.men(board) + " b - - 0 1");
            }
        }
    }

    private static void otherInCheck() {
        Check.says("4 the side that is not to move is in check");
        String[] whiteGives = {"4k3/3P4/8/8/8/8/8/4K3", "4k3/5P2/8/8/8/8/8/4K3", "4k3/8/3N4/8/8/8/8/4K3", "4k3/6N1/8/8/8/8/8/4K3",
            "4k3/8/8/8/B7/8/8/4K3", "4k3/8/8/8/8/8/8/4RK2", "R3k3/8/8/8/8/8/8/4K3", "4k2Q/8/8/8/8/8/8/4K3", "4k3/8/8/7Q/8/8/8/4K3",
            "8/8/8/8/8/8/4k3/4K3", "8/8/8/8/8/8/3k4/4K3"};
        for (String men : whiteGives) {
            fault(4, men + " w - - 0 1");
            fault(men.contains("k3/4K3") || men.contains("k4/4K3") ? 4 : 0, men + " b - - 0 1");
        }
        String[] blackGives = {"4k3/8/8/8/8/8/3p4/4K3", "4k3/8/8/8/8/8/5p2/4K3", "4k3/8/8/8/8/3n4/8/4K3", "4k3/8/8/b7/8/8/8/4K3",
            "3kr3/8/8/8/8/8/8/4K3", "4k3/8/8/8/8/8/8/q3K3"};
        for (String men : blackGives) {
            fault(4, men + " b - - 0 1");
            fault(0, men + " w - - 0 1");
        }
        // A man between, a pawn straight ahead or going the other way, and what would reach round the edge.
        fault(0, "4k3/8/4p3/8/8/8/8/4RK2 w - - 0 1", "4k3/8/4P3/8/8/8/8/4RK2 w - - 0 1", "4k3/4P3/8/8/8/8/8/4K3 w - - 0 1",
                "8/8/8/4k3/3P1P2/4P3/8/4K3 b - - 0 1", "8/8/3P1P2/4k3/8/8/8/4K3 w - - 0 1", "8/8/8/4K3/3p1p2/8/8/4k3 b - - 0 1",
                "8/8/8/k7/7P/7P/8/4K3 w - - 0 1", "8/8/7P/k7/8/8/8/4K3 w - - 0 1", "8/8/8/K7/7p/7p/8/4k3 b - - 0 1",
                "8/7N/k5N1/6N1/7N/8/8/4K3 w - - 0 1", "k7/7K/8/8/8/8/8/8 w - - 0 1", "8/7K/k7/8/8/8/8/8 w - - 0 1");
    }

    private static void wrongRights() {
        Check.says("5 a right whose king or rook is not on its first square");
        String good = "r...k..r" + ".".repeat(48) + "R...K..R";
        int[] rooks = {63, 56, 7, 0};
        for (int i = 0; i < 4; i++) {
            String right = "KQkq".substring(i, i + 1);
            int king = i < 2 ? 60 : 4;
            fault(0, men(good) + " w " + right + " - 0 1");
            for (char other : ".NBQPnbqprR".toCharArray()) {
                if (other != good.charAt(rooks[i])) {
                    String text = men(replaced(good, rooks[i], other)) + (i < 2 ? " w " : " b ") + right + " - 0 1";
                    fault(other == 'P' || other == 'p' ? 3 : 5, text);
                }
            }
            for (int step : new int[] {-1, 1, i < 2 ? -8 : 8}) {
                String moved = replaced(replaced(good, king, '.'), king + step, good.charAt(king));
                fault(5, men(moved) + (i < 2 ? " w " : " b ") + right + " - 0 1");
            }
            String rookAway = replaced(replaced(good, rooks[i], '.'), rooks[i] + (rooks[i] < 8 ? 8 : -8), good.charAt(rooks[i]));
            fault(5, men(rookAway) + " w KQkq - 0 1");
            fault(0, men(rookAway) + " w " + "KQkq".replace(right, "") + " - 0 1");
        }
        // The other side's king on the first square.
        fault(5, "4K2R/8/8/8/8/8/8/k7 b k - 0 1", "K7/8/8/8/8/8/8/4k2r w K - 0 1", "4k2R/8/8/8/8/8/8/K7 b k - 0 1",
                "7k/8/8/8/8/8/8/4K2r w K - 0 1");
    }

    private static String replaced(String board, int at, char man) {
        return board.substring(0, at) + man + board.substring(at + 1);
    }

    /** Squares as they are written, from rank 7 on, with a dot for each empty one. */
    private static String men(String written) {
        char[] board = new char[64];
        for (int i = 0; i < 64; i++) {
            board[8 * (7 - i / 8) + i % 8] = written.charAt(i);
        }
        return Check.men(board);
    }

    private static void wrongPassed() {
        Check.says("6 a passed square that is not empty, not on rank 5 with white to move (2 with black), "
                + "without a pawn of the other side in front of it as if it just passed (from an empty square behind it), "
                + "or that no pawn of the side to move attacks");
        for (int file = 0; file < 8; file++) {
            for (int side = 0; side < 2; side++) {
                passedAt(file, side);
            }
        }
        // Round the edge of the board there is nothing.
        fault(6, "4k3/8/8/p6P/8/8/8/4K3 w - a6 0 1", "4k3/8/8/p7/7P/8/8/4K3 w - a6 0 1", "4k3/8/7P/p7/8/8/8/4K3 w - a6 0 1",
                "4k3/8/8/P6p/8/8/8/4K3 w - h6 0 1", "4k3/8/P7/7p/8/8/8/4K3 w - h6 0 1", "4k3/8/8/8/P6p/8/8/4K3 b - a3 0 1",
                "4k3/8/8/8/p6P/8/8/4K3 b - h3 0 1", "4k3/8/8/p7/7P/8/8/4K3 b - h3 0 1", "4k3/8/8/7p/P7/8/8/4K3 b - a3 0 1");
        fault(0, "4r2k/8/8/3pP3/8/8/8/4K3 w - d6 0 1", "4k3/8/8/8/3pP3/8/8/3RK3 b - e3 0 1", "3k4/8/8/8/3pP3/8/8/3RK3 b - e3 0 1");
    }

    private static void passedAt(int file, int side) {
        int up = side == 0 ? 8 : -8;
        int target = file + (side == 0 ? 40 : 16);
        char own = side == 0 ? 'P' : 'p';
        char other = side == 0 ? 'p' : 'P';
        char[] none = ".".repeat(64).toCharArray();
        none[(file + 5) % 8] = 'K';
        none[56 + (file + 5) % 8] = 'k';
        none[target - up] = other;
        passed(6, none, target, side);
        for (int beside = Math.max(0, file - 1); beside <= Math.min(7, file + 1); beside += 1) {
            if (beside == file) {
                continue;
            }
            char[] good = none.clone();
            good[beside + target - file - up] = own;
            passed(0, good, target, side);
            passed(6, good, target, 1 - side);
            for (int wrong : new int[] {target - 8, target + 8, target - 16, target + 16, target - 24, target + 24}) {
                if (wrong >= 0 && wrong < 64) {
                    passed(6, good, wrong, side);
                }
            }
            for (char man : "NnBbPp".toCharArray()) {
                passed(6, put(good, target, man), target, side);
                passed(6, put(good, target + up, man), target, side);
            }
            for (char man : new char[] {'.', own, 'N', 'n'}) {
                passed(6, put(good, target - up, man), target, side);
            }
            for (char man : new char[] {'.', other, 'N', 'n', side == 0 ? 'B' : 'b'}) {
                passed(6, put(good, beside + target - file - up, man), target, side);
            }
        }
    }

    private static char[] put(char[] board, int at, char man) {
        char[] other = board.clone();
        other[at] = man;
        return other;
    }

    private static void passed(int want, char[] board, int square, int side) {
        String name = "" + (char) ('a' + square % 8) + (char) ('1' + square / 8);
        fault(want, Check.men(board) + (side == 0 ? " w - " : " b - ") + name + " 7 7");
    }

    private static void firstFault() {
        Check.says("FAULTS of a text, the first one counts");
        fault(1, "7P/8/8/8/8/8/8/8 w K e4 0 0", MEN + " w K - 0 0", MEN + " w - e6 0 0", "8/8/8/8/8/8/4k3/4K3 w - - 01 1");
        fault(2, "7P/8/8/8/8/8/8/8 w - - 0 1", "7P/8/8/8/8/8/8/k7 w - - 0 1", "4k3/8/8/8/8/8/4K3/4RK2 w - - 0 1",
                "8/8/8/8/8/8/8/4k3 w K - 0 1", "8/8/8/8/8/8/8/4k3 w - e6 0 1", "7P/4k3/8/8/8/8/8/4R3 w K e6 0 1");
        fault(3, "P3k3/8/8/8/8/8/8/4RK2 w - - 0 1", "p3k3/8/8/8/8/8/8/5K2 w K - 0 1", "4k3/8/8/8/8/8/8/p4K2 w - e6 0 1",
                "4k3/8/8/8/8/8/8/P3RK2 w Kq e6 0 1");
        fault(4, "4k3/8/8/8/8/8/8/4RK2 w K - 0 1", "4k3/8/8/8/8/8/8/4RK2 w - e6 0 1", "4k3/8/8/8/8/8/8/4RK2 w K e6 0 1");
        fault(5, "3k4/8/8/8/8/8/8/4RK2 w K e6 0 1", "3k4/8/8/8/8/8/8/4RK2 w q e6 0 1");
        fault(6, "3k4/8/8/8/8/8/8/4RK2 w - e6 0 1");
    }
}
