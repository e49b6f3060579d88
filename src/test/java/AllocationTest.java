import java.lang.management.ManagementFactory;

/** No call makes an object: all calls of a run share one room (LANGUAGE.md, 12). */
public final class AllocationTest {
    private static final com.sun.management.ThreadMXBean THREADS =
            (com.sun.management.ThreadMXBean) ManagementFactory.getThreadMXBean();

    public static void main(String[] args) {
        long before = THREADS.getCurrentThreadAllocatedBytes();
        PolicyCompiler x = new PolicyCompiler();
        long made = THREADS.getCurrentThreadAllocatedBytes() - before;
        Check.that("a new object takes " + made + " bytes", made < 200_000);
        calls(x);
        before = THREADS.getCurrentThreadAllocatedBytes();
        for (int round = 0; round < 7; round++) {
            calls(x);
        }
        long taken = THREADS.getCurrentThreadAllocatedBytes() - before;
        // The reading itself may take a few bytes.
        Check.that("calls took " + taken + " bytes", taken < 4_000);
        Check.end();
    }

    private static final int[] TEXT = {'(', 'x', '=', '0', '.', 'x', ':', '1', '+', '!', '!', 'y', '=', '2',
        ')', '*', '.', '[', 'z', '=', '1', '?', 'q', '|', '0', ']'};

    private static void calls(PolicyCompiler x) {
        x.clearText();
        for (int i = 0; i < TEXT.length; i++) {
            x.append(TEXT[i]);
        }
        x.parse(0);
        x.combine(0, 0, 1, 2);
        x.modify(1, 1, 3);
        x.modify(0, 2, 2);
        x.parse(9);
        x.size(0);
        x.isPredicate(0);
        x.printed(0, -1);
        x.printed(0, 3);
        x.outputs(0, 5);
        x.accepted(0);
        x.spread(0);
        x.rounds(0);
        x.compare(0, 1);
        x.witness(0, 1);
        x.difference(0, 1);
        x.diagramSize(0);
        x.leaves(0);
        x.diagramDepth(0);
        x.sharedNodes(0, 1);
        x.rows(0);
        x.match(0, 0, 0);
        x.action(0, 0, 0);
        x.hit(0, 0);
        x.hits(0, 0);
        x.digest();
        x.undo();
        x.errorCount(-2);
    }
}
