import com.sun.management.ThreadMXBean;
import java.lang.management.ManagementFactory;
import java.util.function.ObjIntConsumer;

/** What a run of 512 calls makes: all runs share one room, so rows are made once and used again. */
public final class ThriftTest {
    private static final int CALLS = 512;
    // The room is some 7.3 million fields and elements; bytes are at least as many as these.
    private static final long MOST_BYTES = 200_000;
    private static final ThreadMXBean THREADS = (ThreadMXBean) ManagementFactory.getThreadMXBean();
    private static final String ROOM = "leaf 4;row a " + Check.manyBits(300) + ";row b " + Check.manyBits(300)
        + ";row c i;row d o;letters abcdefg;";
    private static final Check CHECK = new Check();

    public static void main(String[] args) {
        run("drawn", (x, k) -> x.drawn(60, k));
        run("deeds", ThriftTest::deed);
        run("images", ThriftTest::image);
        run("texts", ThriftTest::text);
        run("questions", ThriftTest::question);
        run("one new object", (x, k) -> {
            if (k == 0) {
                new BitRopes();
            }
        });
        CHECK.end();
    }

    private static void run(String what, ObjIntConsumer<BitRopes> call) {
        BitRopes once = Check.with(ROOM);
        // What the machine makes when it meets code for the first time is not the program's.
        for (int k = 0; k < 8; k++) {
            call.accept(once, k);
        }
        BitRopes x = Check.with(ROOM);
        long ahead = THREADS.getCurrentThreadAllocatedBytes();
        for (int k = 0; k < CALLS; k++) {
            call.accept(x, k);
        }
        long made = THREADS.getCurrentThreadAllocatedBytes() - ahead;
        CHECK.due("bytes that " + CALLS + " calls make are few: " + what + ", " + made, made <= MOST_BYTES, true);
    }

    private static void deed(BitRopes x, int k) {
        switch (k % 8) {
            case 0 -> x.put(0, 0, 1);
            case 1 -> x.turn(0, 0, 200);
            case 2 -> x.split(0, 100, 1);
            case 3 -> x.join(0, 1);
            case 4 -> x.type(0, k % 8);
            case 5 -> x.cut(0, 0, 1);
            case 6 -> x.erase(0, 1);
            default -> x.undo();
        }
    }

    private static void image(BitRopes x, int k) {
        if (k % 3 < 2) {
            x.image(k % 2);
        } else {
            x.restore(k % 2);
        }
    }

    /** "put a 0 1;" and "leaves>0 or empty", once each in eight calls. */
    private static void text(BitRopes x, int k) {
        switch (k % 8) {
            case 0, 4 -> x.end(0);
            case 1 -> x.feed(0x70757420, 0x61203020, 0x313B2020, 0x20202020, 0x20202020);
            case 2 -> x.book(k / 8 % 2);
            case 5 -> x.feed(0x6C656176, 0x65733E30, 0x206F7220, 0x656D7074, 0x79202020);
            case 6 -> x.sentence();
            default -> x.said(0);
        }
    }

    private static void question(BitRopes x, int k) {
        switch (k % 8) {
            case 0 -> x.dense(0, 0, 2);
            case 1 -> x.load(0);
            case 2 -> x.centre(0, 1);
            case 3 -> x.tree(0, 3);
            case 4 -> x.word(0, 1);
            case 5 -> x.apart(0, 1);
            case 6 -> x.least(0, 1, 0);
            default -> x.seek(0);
        }
    }
}
