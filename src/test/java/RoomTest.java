import java.lang.management.ManagementFactory;

/** What an object and its calls take of the room: all rows are made with the object, calls make none. */
public final class RoomTest {
    /** The room has 7.3 million fields and elements; an object may take a small part of it. */
    private static final long MOST_BYTES_OF_AN_OBJECT = 1_000_000L;
    /** For the virtual machine's own needs. */
    private static final long MOST_BYTES_OF_CALLS = 100_000L;

    public static void main(String[] args) {
        Check check = new Check();
        com.sun.management.ThreadMXBean beans = (com.sun.management.ThreadMXBean) ManagementFactory.getThreadMXBean();
        StringBuilder text = new StringBuilder("def a()=" + "1+".repeat(199) + "1.");
        for (char c = 'b'; c <= 'x'; c++) {
            text.append("def ").append(c).append("(x)=a()+x*put(2).");
        }
        dearCalls(text.toString());
        long before = beans.getThreadAllocatedBytes(Thread.currentThread().getId());
        TailTrimmer x = new TailTrimmer();
        long made = beans.getThreadAllocatedBytes(Thread.currentThread().getId());
        check.due("bytes of an object", made - before > MOST_BYTES_OF_AN_OBJECT ? made - before : 0, 0);
        Check.lay(x, text.toString());
        long fed = beans.getThreadAllocatedBytes(Thread.currentThread().getId());
        int calls = use(x, 40);
        long used = beans.getThreadAllocatedBytes(Thread.currentThread().getId());
        check.due("bytes of " + calls + " calls", used - fed > MOST_BYTES_OF_CALLS ? used - fed : 0, 0);
        System.out.println((made - before) + " bytes for an object, " + (used - fed) + " for " + calls + " calls");
        check.finish();
    }

    private static void dearCalls(String text) {
        TailTrimmer x = new TailTrimmer();
        Check.lay(x, text);
        use(x, 2);
    }

    private static int use(TailTrimmer x, int rounds) {
        x.budget(500);
        int calls = 1;
        for (int i = 0; i < rounds; i++) {
            x.read();
            for (int mode = 0; mode < 8; mode++) {
                x.trim(mode);
            }
            x.write(0, 0);
            x.write(1, 5);
            x.run(1, 9, 20000, 20000);
            calls += 12;
        }
        return calls;
    }
}
