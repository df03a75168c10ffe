import com.sun.management.ThreadMXBean;
import java.lang.management.ManagementFactory;

/** An object is small, and its calls take no more room. */
final class RoomTest {
    private static final ThreadMXBean THREADS = (ThreadMXBean) ManagementFactory.getThreadMXBean();

    public static void main(String[] args) {
        String text = "r3k2r/p1ppqpb1/bn2pnp1/3PN3/1p2P3/2N2Q1p/PPPBBPPP/R3K2R w KQkq - 0 1";
        long[] words = new long[(text.length() + 7) / 8];
        for (int i = 0; i < words.length; i++) {
            words[i] = Check.word(text.substring(8 * i, Math.min(text.length(), 8 * i + 8)));
        }
        calls(new MateProblems(), words, text.length());
        long start = room();
        MateProblems x = new MateProblems();
        long made = room();
        calls(x, words, text.length());
        long called = room();
        Check.due("an object has less than 100,000 bytes", made - start < 100_000, true);
        Check.due("calls take less than 5,000 bytes", called - made < 5_000, true);
        Check.end();
    }

    private static long room() {
        return THREADS.getThreadAllocatedBytes(Thread.currentThread().getId());
    }

    private static void calls(MateProblems x, long[] words, int length) {
        for (int i = 0; i < words.length; i++) {
            x.type(words[i], Math.min(8, length - 8 * i));
        }
        x.load();
        for (int i = 0; i < 8; i++) {
            x.play(x.move(i));
            x.beaten();
        }
        for (int i = 0; i < 8; i++) {
            x.back();
        }
        for (int kind = 0; kind < 2; kind++) {
            for (int goal = 0; goal < 2; goal++) {
                x.keys(kind, goal, 2);
                x.least(kind, goal, 2);
                x.refuted(kind, goal, 2, 5);
            }
        }
        x.lines(0, 1);
        x.lines(1, 1);
    }
}
