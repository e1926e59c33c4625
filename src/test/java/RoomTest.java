import java.lang.management.ManagementFactory;

/**
 * All calls of one run live in one room of 600,000 objects and 7.3 million fields and elements. A field takes a byte at
 * least, and an object sixteen: what makes fewer bytes than 7.3 million stays within both.
 */
public final class RoomTest {
    private static final long MOST_BYTES = 7_300_000;
    private static final int MOST_CALLS = 512;

    private static AssertionBench bench;
    private static int calls;

    public static void main(String[] args) {
        Runnable[] runs = {RoomTest::greatTexts, RoomTest::growingSequences, RoomTest::manySequences, RoomTest::classes,
            RoomTest::written, RoomTest::searches, RoomTest::designs};
        for (int k = 0; k < runs.length; k++) {
            // With the first time Java makes things of its own, too.
            bytesOf(runs[k]);
            long bytes = bytesOf(runs[k]);
            Check.holds("run " + k + " makes " + bytes + " bytes", bytes < MOST_BYTES);
            Check.holds("run " + k + " has " + calls + " calls", calls > 0 && calls <= MOST_CALLS);
        }
        Check.done("RoomTest");
    }

    private static long bytesOf(Runnable run) {
        long before = bytesSoFar();
        bench = new AssertionBench();
        calls = 0;
        run.run();
        return bytesSoFar() - before;
    }

    /** A Java that can't tell it leaves the runs themselves to be looked at. */
    private static long bytesSoFar() {
        return ManagementFactory.getThreadMXBean() instanceof com.sun.management.ThreadMXBean threads
                && threads.isThreadAllocatedMemorySupported() ? threads.getCurrentThreadAllocatedBytes() : 0;
    }

    /** Puts a text and reads it, if there are calls left for that; 2 is for designs, 3 for numbers. */
    private static boolean read(int p, String text) {
        int needed = (text.length() + 3) / 4 + 1;
        if (calls + needed > MOST_CALLS) {
            return false;
        }
        calls += needed;
        Text.put(bench, text);
        int fault = p == 2 ? bench.readDesign() : p == 3 ? bench.readNumbers() : bench.read(p);
        Check.same(text, AssertionBench.NONE, fault);
        return true;
    }

    private static void letters() {
        for (int n = 0; n < 24 && calls < MOST_CALLS; n++) {
            bench.letter(n);
            calls++;
        }
    }

    private static void greatTexts() {
        String text = "{{a[=9]}[*2]}|->".repeat(25);
        for (int n = 0; read(n % 2, text.substring(0, text.length() - 3)); n++) {
            letters();
        }
    }

    private static void growingSequences() {
        StringBuilder text = new StringBuilder("{a");
        for (int n = 0; n < 40 && read(n % 2, text + "}"); n++) {
            text.append(";a");
        }
    }

    private static void manySequences() {
        for (int n = 0; read(n % 2, "{a}|->".repeat(66) + "{b}"); n++) {
            letters();
        }
    }

    private static void classes() {
        for (int n = 0; read(n % 2, "{" + "abcdef".charAt(n % 6) + "[*6]}"); n++) {
            if (calls + 2 <= MOST_CALLS) {
                bench.classes(n % 2);
                bench.flops(n % 2);
                calls += 2;
            }
        }
    }

    private static void written() {
        read(2, "input x;latch q 0;signal a=x" + "^x".repeat(20) + ";");
        while (calls + 2 <= MOST_CALLS) {
            bench.signal(0, calls % 4);
            bench.number(0);
            calls += 2;
        }
    }

    private static void searches() {
        String most = "{0[->1]}|->".repeat(30);
        read(0, most.substring(0, most.length() - 3));
        read(1, "({0[->1]}and".repeat(19) + "{0[->1]}" + ")".repeat(19));
        for (int n = 0; n < 5; n++) {
            Check.same("nothing is found", 0, n % 2 == 0 ? bench.search(n / 2 % 2, 9) : bench.differ(1, 9));
            calls++;
        }
        letters();
    }

    private static void designs() {
        for (int n = 0; read(2, "input x;signal a=x" + "^x".repeat(20) + ";"); n++) {
            read(3, "aag 1 1 0 6 0 2 2 2 2 2 2 2");
            if (calls < MOST_CALLS) {
                bench.number(n);
                calls++;
            }
        }
    }
}
