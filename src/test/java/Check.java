import java.util.ArrayList;
import java.util.List;
import java.util.function.LongSupplier;

/** What the tests share: comparing answers, typing texts, and writing moves as people do. */
final class Check {
    private static int wrong = 0;

    /** The sentence of the document that is being tested, or nothing. */
    private static String sentence = "";

    static {
        // A call that must not throw may well do so: the sentence that is broken is told then too.
        Thread.setDefaultUncaughtExceptionHandler((thread, thrown) -> {
            System.out.println(sentence + "there was thrown " + thrown);
            thrown.printStackTrace(System.out);
            System.exit(1);
        });
    }

    private Check() {
    }

    /** What is checked from here on belongs to that sentence. */
    static void says(String words) {
        sentence = "\"" + words + "\": ";
    }

    static void due(String what, long got, long want) {
        if (got != want) {
            isWrong(what, Long.toString(got), Long.toString(want));
        }
    }

    static void due(String what, boolean got, boolean want) {
        due(what, got ? 1 : 0, want ? 1 : 0);
    }

    static void due(String what, String got, String want) {
        if (!got.equals(want)) {
            isWrong(what, got, want);
        }
    }

    private static void isWrong(String what, String got, String want) {
        wrong++;
        System.out.println(sentence + what + " answered " + got + ", due is " + want);
    }

    /** The call must throw just that exception. */
    static void thrown(String what, Class<? extends RuntimeException> want, LongSupplier call) {
        String got;
        try {
            got = "the answer " + call.getAsLong();
        } catch (RuntimeException e) {
            got = e.getClass().getName();
        }
        due(what, got, want.getName());
    }

    static void end() {
        System.out.println(wrong == 0 ? "all answers are as due" : wrong + " answers are not as due");
        if (wrong != 0) {
            System.exit(1);
        }
    }

    /** The bytes of up to eight characters, the first one lowest. */
    static long word(String s) {
        long w = 0;
        for (int i = s.length() - 1; i >= 0; i--) {
            w = w << 8 | s.charAt(i);
        }
        return w;
    }

    static void typeAll(MateProblems x, String text) {
        for (int i = 0; i < text.length(); i += 8) {
            String part = text.substring(i, Math.min(text.length(), i + 8));
            due("type " + part, x.type(word(part), part.length()), true);
        }
    }

    static int loading(MateProblems x, String text) {
        x.cut(0);
        typeAll(x, text);
        return x.load();
    }

    static MateProblems at(String text) {
        MateProblems x = new MateProblems();
        due("load " + text, loading(x, text), 0);
        return x;
    }

    /** A move as told, from its squares: "e2e4", "g7g8q". */
    static int told(String move) {
        int m = move.length() < 5 ? 0 : "  nbrq".indexOf(move.charAt(4));
        return square(move.substring(0, 2)) + 64 * square(move.substring(2, 4)) + 4096 * m;
    }

    static int square(String name) {
        return name.charAt(0) - 'a' + 8 * (name.charAt(1) - '1');
    }

    static String written(int move) {
        if (move < 0) {
            return Integer.toString(move);
        }
        String m = move >> 12 == 0 ? "" : "  nbrq".substring(move >> 12, (move >> 12) + 1);
        return name(move & 63) + name(move >> 6 & 63) + m;
    }

    /** The first field of a text: men by square, with a dot for each empty one. */
    static String men(char[] board) {
        StringBuilder text = new StringBuilder();
        for (int rank = 7; rank >= 0; rank--) {
            text.append(new String(board, 8 * rank, 8)).append(rank > 0 ? "/" : "");
        }
        String men = text.toString();
        for (int d = 8; d > 0; d--) {
            men = men.replace("........".substring(0, d), "" + d);
        }
        return men;
    }

    private static String name(int square) {
        return "" + (char) ('a' + (square & 7)) + (char) ('1' + (square >> 3));
    }

    static String legal(MateProblems x) {
        return legalFrom(x, "");
    }

    /** The legal moves from one square. */
    static String legalFrom(MateProblems x, String from) {
        List<String> all = new ArrayList<>();
        int moves = x.moves();
        for (int k = 0; k < moves; k++) {
            String move = written(x.move(k));
            if (move.startsWith(from)) {
                all.add(move);
            }
        }
        return String.join(" ", all);
    }

    static String keys(MateProblems x, int kind, int goal, int n) {
        int count = x.keys(kind, goal, n);
        List<String> all = new ArrayList<>();
        for (int i = 0; i < count; i++) {
            all.add(written(x.key(i)));
        }
        thrown("key behind the last", IndexOutOfBoundsException.class, () -> x.key(count));
        return String.join(" ", all);
    }

    static String line(MateProblems x, int goal, int n, int i) {
        List<String> all = new ArrayList<>();
        for (int j = 0; j < 2 * n; j++) {
            all.add(written(x.line(goal, n, i, j)));
        }
        return String.join(" ", all);
    }

    static void play(MateProblems x, String moves) {
        for (String move : moves.split(" ")) {
            x.play(told(move));
        }
    }

    /** Which legal move that is, or -1. */
    static int place(MateProblems x, String move) {
        int moves = x.moves();
        for (int k = 0; k < moves; k++) {
            if (x.move(k) == told(move)) {
                return k;
            }
        }
        return -1;
    }
}
