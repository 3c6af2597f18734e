import java.lang.management.ManagementFactory;

/** What calls make is counted by the room they live in: calls that only ask or reckon make nothing. */
public final class RoomTest {
    private static final Check CHECK = new Check("RoomTest");
    private static final com.sun.management.ThreadMXBean ROOM =
            (com.sun.management.ThreadMXBean) ManagementFactory.getThreadMXBean();
    private static final int CALLS = 500;
    private static final long SLACK = 4096;

    public static void main(String[] args) {
        reckoning(fullDesk());
        long before = allocated();
        reckoning(fullDesk());
        long withDesk = allocated() - before;
        LetterDesk desk = fullDesk();
        before = allocated();
        reckoning(desk);
        CHECK.same("bytes made by calls that reckon, beyond " + SLACK, Math.max(0, allocated() - before - SLACK), 0);
        // All fields and elements of a run are 7.3 million at most; a field or element takes a byte at least.
        CHECK.same("a full desk with " + CALLS + " calls takes under a million bytes", withDesk < 1_000_000, true);
        before = allocated();
        new LetterDesk();
        CHECK.same("a new desk takes under 14,000 bytes", allocated() - before < 14_000, true);
        CHECK.finish();
    }

    private static long allocated() {
        return ROOM.getThreadAllocatedBytes(Thread.currentThread().getId());
    }

    /** Six editions with as many worlds as there may be. */
    private static LetterDesk fullDesk() {
        String facts = "fact a 0 to 99;fact b 0 to 19;";
        String clause = " at 1when a<b+1;says" + "= a+b".repeat(10) + " day a".repeat(10) + ";";
        String text = facts;
        for (char name = 'a'; name <= 'l'; name++) {
            text += "clause " + name + clause;
        }
        return Desks.with(text, text, text, text, text, text);
    }

    private static void reckoning(LetterDesk desk) {
        for (int n = 0; n < CALLS; n++) {
            desk.world(n);
            desk.make(n);
            desk.letter(0);
            desk.out(n);
            desk.part(1);
            desk.judge(4, 0);
            desk.look(5);
            desk.told(0, 2);
            desk.working(0, n);
            desk.free(n, n % 2 == 0);
            desk.feed(n, n, n);
        }
        for (int n = 0; n < 5; n++) {
            desk.changed(n, n + 1, n, 0);
        }
    }
}
