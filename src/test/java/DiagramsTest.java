/** Promises 17 to 20: the size, the leaves and the depth of diagrams, and their shared nodes. */
public final class DiagramsTest {
    private static final String EVERYTHING =
            "(x:0+x:1+x:2+x:3).(y:0+y:1+y:2+y:3).(z:0+z:1+z:2+z:3)";

    public static void main(String[] args) {
        promises17To19Shapes();
        promises17To19Errors();
        promise20SharedNodes();
        promise20Errors();
        Check.end();
    }

    private static void dueShape(String text, int size, int leaves, int depth) {
        PolicyCompiler x = Check.holding(text);
        Check.due("diagramSize of " + text, x.diagramSize(0), size);
        Check.due("leaves of " + text, x.leaves(0), leaves);
        Check.due("diagramDepth of " + text, x.diagramDepth(0), depth);
    }

    private static void promises17To19Shapes() {
        dueShape("0", 1, 1, 0);
        dueShape("1", 1, 1, 0);
        dueShape("x=1", 3, 2, 1);
        dueShape("y=1", 3, 2, 1);
        dueShape("z=1", 3, 2, 1);
        // In an assignment's diagram a packet that has the value already keeps it.
        dueShape("x:1", 3, 2, 1);
        dueShape("x:0+x:1+x:2+x:3", 5, 4, 1);
        dueShape("x=1.z=1", 4, 2, 2);
        dueShape("x=1.y=1.z=1", 5, 2, 3);
        dueShape("x=1+y=1+z=1", 5, 2, 3);
        dueShape("x=1.y:2", 5, 3, 2);
        dueShape("[x=0?y:1|z:2]", 6, 3, 2);
        // The two values of x share their node of y.
        dueShape("(x=1+x=2).y=1", 4, 2, 2);
        // The node of z is shared by two nodes of y.
        dueShape("x=1.y=1.z=1+x=2.y=2.z=1", 6, 2, 3);
        // Nodes of different fields differ, though their children are the same.
        dueShape("x=1.y=1+x=2.z=1", 5, 2, 2);
        // A test that decides nothing does not occur.
        dueShape("[x=0?y:1|y:1]", 3, 2, 1);
        dueShape("x=0+x=1+x=2+x=3", 1, 1, 0);
        dueShape("x=0.(y=1+y=2)+!x=0.(y=2+y=1)", 3, 2, 1);
        dueShape("z:2.z=1", 1, 1, 0);
        dueShape(EVERYTHING, 85, 64, 3);
        PolicyCompiler x = Check.holding("x=1.y=1");
        Check.due("diagramSize(0)", x.diagramSize(0), 4);
        x.combine(0, 0, 1, 0);
        Check.due("diagramSize(0) after a change", x.diagramSize(0), 1);
        x.undo();
        Check.due("diagramSize(0) after undo()", x.diagramSize(0), 4);
    }

    private static void promises17To19Errors() {
        PolicyCompiler x = new PolicyCompiler();
        int[] slots = {-1, 4, Integer.MIN_VALUE, Integer.MAX_VALUE};
        for (int slot : slots) {
            Check.due("diagramSize(" + slot + ")", x.diagramSize(slot), -2);
            Check.due("leaves(" + slot + ")", x.leaves(slot), -2);
            Check.due("diagramDepth(" + slot + ")", x.diagramDepth(slot), -2);
        }
        Check.due("errorCount(-2)", x.errorCount(-2), 12);
    }

    private static void dueShared(String a, String b, int shared) {
        PolicyCompiler x = Check.holding(a);
        Check.that("parse " + b, Check.parse(x, 1, b) > 0);
        Check.due("sharedNodes of " + a + " and " + b, x.sharedNodes(0, 1), shared);
        Check.due("sharedNodes of " + b + " and " + a, x.sharedNodes(1, 0), shared);
        Check.due("sharedNodes(0, 0)", x.sharedNodes(0, 0), x.diagramSize(0));
        Check.parse(x, 1, "1.p");
        Check.due("sharedNodes with a smaller one", x.sharedNodes(0, 2), x.sharedNodes(2, 0));
        Check.due("sharedNodes with an equal one", x.sharedNodes(0, 1), x.diagramSize(0));
    }

    private static void promise20SharedNodes() {
        dueShared("x=1", "!!x=1", 3);
        dueShared("x=1", "x=2", 2);
        dueShared("x=1", "y=1", 2);
        dueShared("1", "x=1", 1);
        dueShared("0", "1", 0);
        dueShared("x:1", "x:2", 1);
        dueShared("x=1.y:2", "y:2", 3);
        dueShared("x=1.y:2", "x=2.y:2", 4);
        dueShared("x=1.y=1.z=1", "y=1.z=1", 4);
        dueShared("x=1.y=1.z=1", "x=1.y=1.z=2", 2);
        dueShared(EVERYTHING, EVERYTHING + ".1", 85);
        dueShared(EVERYTHING, EVERYTHING + "*", 85);
        // One value apart: the leaf of (0, 0, 0) and the three nodes above it are not shared.
        dueShared(EVERYTHING, "[x=0.y=0.z=0?0|" + EVERYTHING + "]", 81);
    }

    private static void promise20Errors() {
        PolicyCompiler x = new PolicyCompiler();
        Check.due("sharedNodes(-1, 0)", x.sharedNodes(-1, 0), -2);
        Check.due("sharedNodes(4, 0)", x.sharedNodes(4, 0), -2);
        Check.due("sharedNodes(0, -1)", x.sharedNodes(0, -1), -2);
        Check.due("sharedNodes(0, 4)", x.sharedNodes(0, 4), -2);
        Check.due("errorCount(-2)", x.errorCount(-2), 4);
    }
}
