import java.lang.management.ManagementFactory;

/** A run makes few objects: all of its calls must find room at once, as nothing is given back. */
public final class RoomTests {
    private static final long BYTES_OF_AN_OBJECT = 300_000;
    private static final long BYTES_OF_A_RUN = 200_000;

    private RoomTests() {
    }

    public static void main(String[] args) {
        Checks.part("room");
        dearRun();
        long start = allocated();
        InflectionGuesser x = new InflectionGuesser();
        long made = allocated();
        fill(x);
        for (int i = 0; i < 100; i++) {
            dearCalls(x);
        }
        long end = allocated();
        System.out.println("bytes of an object: " + (made - start) + ", of its calls: " + (end - made));
        Checks.due("an object is small", made - start < BYTES_OF_AN_OBJECT, true);
        Checks.due("its calls make little", end - made < BYTES_OF_A_RUN, true);
        Checks.end();
    }

    /** The first run loads classes, which would be counted too. */
    private static void dearRun() {
        InflectionGuesser x = new InflectionGuesser();
        fill(x);
        dearCalls(x);
        allocated();
    }

    private static long allocated() {
        com.sun.management.ThreadMXBean threads =
                (com.sun.management.ThreadMXBean) ManagementFactory.getThreadMXBean();
        return threads.getThreadAllocatedBytes(Thread.currentThread().getId());
    }

    /** Cells of the kind change with all vowels and suffixes make the most hypotheses. */
    private static void fill(InflectionGuesser x) {
        for (int p = 0; p < 6; p++) {
            x.addParadigm();
            for (int c = 0; c < 6; c++) {
                for (int i = 0; i < c % 4; i++) {
                    x.append('b');
                }
                x.addCell(p, 3, 0);
            }
        }
        for (int w = 0; w < 15; w++) {
            x.append((char) ('a' + w));
            addWord(x);
        }
        x.save();
    }

    private static void addWord(InflectionGuesser x) {
        x.append('a');
        x.append('b');
        x.append('b');
        x.append('b');
        x.append('b');
        x.addWord();
    }

    private static void dearCalls(InflectionGuesser x) {
        x.restore();
        x.append('z');
        addWord(x);
        Checks.due("hypothesisCount()", x.hypothesisCount(), 6 * 16 * 4 * 5);
        Checks.due("explanations(3)", x.explanations(3), 6 * 4 * 5);
        Checks.due("cover()", x.cover(), 10);
        Checks.due("uncovered()", x.uncovered(), 6);
        x.undo();
    }
}
