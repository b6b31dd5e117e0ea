import java.lang.management.ManagementFactory;

/**
 * All calls of a run live in one room of some 600,000 objects and 7.3 million fields and elements. An object takes 16
 * bytes at least and an element one, so a run that takes far fewer than 7,000,000 bytes stays far below both.
 */
public final class RoomTest {
    private static final long MOST_BYTES = 1000000;
    private static final com.sun.management.ThreadMXBean THREADS =
        (com.sun.management.ThreadMXBean) ManagementFactory.getThreadMXBean();

    private RoomTest() {
    }

    private static long bytes() {
        return THREADS.getThreadAllocatedBytes(Thread.currentThread().getId());
    }

    /** A call that takes much, by its kind. */
    private static void call(ReceiptRolls x, int kind) {
        switch (kind) {
            case 0: x.put(Due.packed("abcdefgh")); break;
            case 1: x.ring(0, 99, 9999, 2); break;
            case 2: x.bestWidth(0, 0); break;
            case 3: x.sign(0, 5, 5); break;
            case 4: x.restore(0); break;
            case 5: x.save(1); break;
            case 6: x.undo(); break;
            case 7: x.pass(99); break;
            case 8: x.close(0, 0); break;
            case 9: x.linesLeft(); break;
            case 10: x.tear(1); break;
            default: x.newRoll(); break;
        }
    }

    /** A run of 512 calls, in which one kind of calls, besides those that it needs, is made over and over. */
    private static long run(int kind) {
        long before = bytes();
        ReceiptRolls x = new ReceiptRolls();
        x.save(0);
        for (int i = 0; i < 12; i++) {
            x.put(Due.packed("abcdefgh"));
            x.put(Due.packed("ijklmnop"));
            x.put(Due.packed("qrstuvwx"));
            x.put(Due.packed("yz_abc"));
            x.ring(0, 99, 9999, 2);
        }
        for (int used = 61; used < Rolls.MOST_CALLS; used++) {
            if (kind == 1 && used % 3 != 0) {
                call(x, used % 3 == 1 ? 0 : 6);
            } else {
                call(x, kind < 12 ? kind : used % 12);
            }
        }
        return bytes() - before;
    }

    public static void main(String[] args) {
        int wrong = 0;
        run(0);
        for (int kind = 0; kind <= 12; kind++) {
            long taken = run(kind);
            if (taken > MOST_BYTES) {
                wrong++;
                System.out.println("a run of kind " + kind + " takes " + taken + " bytes");
            }
        }
        System.out.println(wrong == 0 ? "the room is large enough" : wrong + " runs take too much room");
        if (wrong != 0) {
            System.exit(1);
        }
    }
}
