import java.util.ArrayList;
import java.util.List;
import java.util.function.ToLongFunction;

/**
 * Sentence by sentence: "A call that throws changes nothing; where several exceptions that a call names fit, it is the one that it
 * names first", calls that answer false or a fault and change nothing, and "An object is used for at most 512 calls".
 */
final class CallEdgesTest {
    private static final String QUEEN = "7k/8/5KQ1/8/8/8/8/8 w - - 0 1";
    private static final String STARTED = "r3k2r/8/8/1Pp5/8/8/8/R3K2R w KQkq c6 0";

    private static final class Call {
        final String name;
        final Class<? extends RuntimeException> thrown;
        final ToLongFunction<MateProblems> call;

        Call(String name, Class<? extends RuntimeException> thrown, ToLongFunction<MateProblems> call) {
            this.name = name;
            this.thrown = thrown;
            this.call = call;
        }
    }

    public static void main(String[] args) {
        throwingCalls();
        falseCalls();
        faults();
        queries();
        namedFirst();
        lastCalls();
        manyObjects();
        Check.end();
    }

    /** Moves are made, keys are asked, help lines too, and a text is begun. */
    private static MateProblems busy() {
        MateProblems x = Check.at("7k/8/5KQ1/8/8/8/8/8 w - - 0 1");
        Check.play(x, "g6g1 h8h7 g1g6 h7h8");
        Check.due("keys", x.keys(0, 1, 2), 10);
        x.lines(0, 1);
        Check.typeAll(x, STARTED);
        return x;
    }

    /** The same with eight moves made. */
    private static MateProblems full() {
        MateProblems x = Check.at("7k/8/5KQ1/8/8/8/8/8 w - - 0 1");
        Check.play(x, "g6g1 h8h7 g1g6 h7h8 g6g1 h8h7 g1g6 h7h8");
        Check.due("keys", x.keys(0, 0, 1), 1);
        return x;
    }

    /** All that can be seen of an object; it is used up then. */
    private static String everything(MateProblems x) {
        List<String> seen = new ArrayList<>();
        seen.add("keys");
        for (int i = 0; i < 12; i++) {
            String key;
            try {
                key = Check.written(x.key(i));
            } catch (IndexOutOfBoundsException e) {
                key = "none";
            }
            seen.add(key);
        }
        int length = 100;
        while (!x.cut(length)) {
            length--;
        }
        seen.add("text " + length);
        seen.add(Check.legal(x));
        seen.add("lines " + x.lines(0, 1) + " beaten " + x.beaten());
        for (int i = 0; i < 9; i++) {
            try {
                seen.add("back " + x.back() + " " + Check.legalFrom(x, "").length());
            } catch (IllegalStateException e) {
                seen.add("no more");
            }
        }
        Check.due("the text goes on", x.type(Check.word(" 1"), 2), true);
        seen.add("load " + x.load() + " " + Check.legal(x));
        return String.join("; ", seen);
    }

    private static void unchanged(Call c) {
        for (boolean eight : new boolean[] {false, true}) {
            MateProblems x = eight ? full() : busy();
            String before = everything(eight ? full() : busy());
            for (int times = 0; times < 2; times++) {
                if (c.thrown == null) {
                    c.call.applyAsLong(x);
                } else {
                    Check.thrown(c.name, c.thrown, () -> c.call.applyAsLong(x));
                }
            }
            Check.due("all behind " + c.name, everything(x), before);
        }
    }

    private static void throwingCalls() {
        Check.says("A call that throws changes nothing");
        Class<? extends RuntimeException> index = IndexOutOfBoundsException.class;
        Class<? extends RuntimeException> wrong = IllegalArgumentException.class;
        Call[] calls = {
            new Call("move -1", index, x -> x.move(-1)),
            new Call("move 1000", index, x -> x.move(1000)),
            new Call("play 0", wrong, x -> x.play(0)),
            new Call("play -1", wrong, x -> x.play(-1)),
            new Call("play of the other side's", wrong, x -> x.play(Check.told("h8h7"))),
            new Call("key -1", index, x -> x.key(-1)),
            new Call("key 1000", index, x -> x.key(1000)),
            new Call("keys of kind 2", wrong, x -> x.keys(2, 0, 1)),
            new Call("keys with goal -1", wrong, x -> x.keys(0, -1, 1)),
            new Call("keys in 0", wrong, x -> x.keys(0, 0, 0)),
            new Call("keys in 4", wrong, x -> x.keys(1, 1, 4)),
            new Call("least of 0", wrong, x -> x.least(0, 0, 0)),
            new Call("least of 4", wrong, x -> x.least(0, 0, 4)),
            new Call("refuted in 4", wrong, x -> x.refuted(0, 0, 4, 0)),
            new Call("refuted -1", index, x -> x.refuted(0, 0, 1, -1)),
            new Call("refuted 1000", index, x -> x.refuted(0, 0, 3, 1000)),
            new Call("lines in 0", wrong, x -> x.lines(0, 0)),
            new Call("lines in 3", wrong, x -> x.lines(0, 3)),
            new Call("line in 3", wrong, x -> x.line(0, 3, 0, 0)),
            new Call("line -1", index, x -> x.line(0, 1, -1, 0)),
            new Call("line 1000", index, x -> x.line(1, 1, 1000, 0)),
            new Call("line, move 2", index, x -> x.line(0, 1, 0, 2))};
        for (Call c : calls) {
            unchanged(c);
        }
        nothingToTakeBack();
        ninthMove();
    }

    private static void nothingToTakeBack() {
        MateProblems x = Check.at(QUEEN);
        Check.due("keys", x.keys(0, 0, 1), 1);
        Check.thrown("back", IllegalStateException.class, x::back);
        Check.due("the key", Check.written(x.key(0)), "g6g7");
        Check.due("the moves", x.moves(), 23);
        Check.due("no move is made", x.play(Check.told("g6g7")), 1);
        Check.due("mate", x.beaten(), 1);
    }

    private static void ninthMove() {
        MateProblems x = full();
        String before = everything(full());
        for (int times = 0; times < 3; times++) {
            Check.thrown("the ninth", UnsupportedOperationException.class, () -> x.play(Check.told("g6g7")));
        }
        Check.due("all behind the ninth", everything(x), before);
    }

    private static void falseCalls() {
        Check.says("False, changing nothing");
        Call[] calls = {
            new Call("type of 0", null, x -> no(x.type(Check.word("11111111"), 0))),
            new Call("type of 9", null, x -> no(x.type(Check.word("11111111"), 9))),
            new Call("type of -1", null, x -> no(x.type(Check.word("11111111"), -1))),
            new Call("type with a bad last one", null, x -> no(x.type(Check.word("1111111") | 127L << 56, 8))),
            new Call("type with a bad first one", null, x -> no(x.type(31, 1))),
            new Call("cut -1", null, x -> no(x.cut(-1))),
            new Call("cut 100", null, x -> no(x.cut(100)))};
        for (Call c : calls) {
            unchanged(c);
        }
        MateProblems x = busy();
        for (int i = STARTED.length(); i < 100; i++) {
            Check.due("type", x.type(' ', 1), true);
        }
        Check.due("one too many", x.type('1', 1), false);
        Check.due("eight too many", x.type(Check.word("11111111"), 8), false);
        Check.due("cut", x.cut(STARTED.length()), true);
        Check.due("all behind it", everything(x), everything(busy()));
    }

    private static long no(boolean answer) {
        Check.due("the call", answer, false);
        return 0;
    }

    private static void faults() {
        Check.says("Otherwise the FAULT, and nothing changes (the text stays).");
        unchanged(new Call("load", null, x -> {
            Check.due("load", x.load(), 1);
            return 0;
        }));
        String[] bad = {"", "8/8/8/8/8/8/8/8 w - - 0 1", "P6k/8/5KQ1/8/8/8/8/8 w - - 0 1", "6k1/8/5KQ1/8/8/8/8/8 w - - 0 1",
            "7k/8/5KQ1/8/8/8/8/8 w K - 0 1", "7k/8/5KQ1/8/8/8/8/8 b - a3 0 1"};
        for (int i = 0; i < bad.length; i++) {
            MateProblems x = busy();
            MateProblems y = busy();
            for (MateProblems one : new MateProblems[] {x, y}) {
                Check.due("cut", one.cut(0), true);
                Check.typeAll(one, bad[i]);
            }
            Check.due("load " + bad[i], x.load(), i + 1);
            Check.due("all behind fault " + (i + 1), everything(x), everything(y));
        }
    }

    private static void queries() {
        Check.says("other calls leave them");
        Call[] calls = {
            new Call("moves", null, MateProblems::moves), new Call("move", null, x -> x.move(3)), new Call("beaten", null, MateProblems::beaten),
            new Call("least 0 0", null, x -> x.least(0, 0, 3)), new Call("least 1 1", null, x -> x.least(1, 1, 2)),
            new Call("refuted", null, x -> x.refuted(0, 0, 2, 0)), new Call("refuted", null, x -> x.refuted(1, 0, 2, 5)),
            new Call("lines", null, x -> x.lines(1, 2)), new Call("lines", null, x -> x.lines(0, 1)), new Call("key", null, x -> x.key(0))};
        for (Call c : calls) {
            unchanged(c);
        }
    }

    private static void namedFirst() {
        Check.says("where several exceptions that a call names fit, it is the one that it names first");
        MateProblems x = full();
        Check.thrown("not legal, and eight are made", IllegalArgumentException.class, () -> x.play(Check.told("h8h7")));
        Check.thrown("legal, and eight are made", UnsupportedOperationException.class, () -> x.play(Check.told("g6g7")));
        for (int[] w : new int[][] {{2, 0, 1}, {0, 2, 1}, {0, 0, 4}, {-1, -1, 0}}) {
            for (int k : new int[] {-1, 23, Integer.MAX_VALUE}) {
                Check.thrown("a wrong problem and no such move", IllegalArgumentException.class, () -> x.refuted(w[0], w[1], w[2], k));
            }
        }
        for (int[] w : new int[][] {{2, 1}, {-1, 2}, {0, 0}, {1, 3}}) {
            for (int[] ij : new int[][] {{-1, 0}, {0, -1}, {9999, 9999}}) {
                Check.thrown("a wrong goal or number and no such line", IllegalArgumentException.class, () -> x.line(w[0], w[1], ij[0], ij[1]));
            }
        }
    }

    private static void lastCalls() {
        Check.says("An object is used for at most 512 calls after it has been made");
        MateProblems x = new MateProblems();
        for (int i = 0; i < 256; i++) {
            Check.due("call " + (2 * i + 1), x.play(Check.told("e2e4")), 1);
            Check.due("call " + (2 * i + 2), x.back(), 0);
        }
        MateProblems y = new MateProblems();
        for (int i = 0; i < 510; i++) {
            Check.due("call " + (i + 1), y.type('a', 1), i < 100);
        }
        Check.due("call 511", y.cut(0), true);
        Check.due("call 512", y.load(), 1);
        MateProblems z = Check.at(QUEEN);
        int calls = 1 + (QUEEN.length() + 7) / 8 + 1;
        for (; calls < 511; calls++) {
            Check.due("call " + (calls + 1), z.keys(0, 0, 1), 1);
        }
        Check.due("call 512", Check.written(z.key(0)), "g6g7");
        MateProblems lines = new MateProblems();
        for (int i = 0; i < 511; i++) {
            int at = i;
            Check.thrown("call " + (i + 1), IndexOutOfBoundsException.class, () -> lines.line(0, 2, 8 + at, 0));
        }
        Check.due("call 512", lines.line(0, 2, 7, 3), Check.told("d8h4"));
        MateProblems none = new MateProblems();
        for (int i = 0; i < 511; i++) {
            Check.thrown("call " + (i + 1), IllegalStateException.class, none::back);
        }
        Check.due("call 512", none.moves(), 20);
    }

    private static void manyObjects() {
        Check.says("The usual first position .. The text is empty: whatever was done with other objects");
        MateProblems x = busy();
        MateProblems y = new MateProblems();
        Check.due("moves", y.moves(), 20);
        Check.due("the text is empty", y.cut(1), false);
        Check.thrown("no keys", IndexOutOfBoundsException.class, () -> y.key(0));
        Check.thrown("no move is made", IllegalStateException.class, y::back);
        Check.due("lines", y.lines(0, 2), 8);
        Check.play(y, "e2e4");
        Check.due("the other one is as before", everything(x), everything(busy()));
    }
}
