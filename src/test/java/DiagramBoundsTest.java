/** The edges of the document's sentences on actions and diagrams, and of promises 17 to 20. */
public final class DiagramBoundsTest {
    private static final String EVERYTHING =
            "(x:0+x:1+x:2+x:3).(y:0+y:1+y:2+y:3).(z:0+z:1+z:2+z:3)";
    private static final int[] NO_SLOTS = {-1, 4, 5, 64, -4, Integer.MIN_VALUE, Integer.MAX_VALUE};

    public static void main(String[] args) {
        actionsBetweenAllPackets();
        leastAndGreatestActions();
        actionSets();
        smallestDiagrams();
        deepestDiagrams();
        largestDiagram();
        depthsFrom0To3();
        leavesFrom1To64();
        depthsOfWays();
        fieldsInAscendingOrder();
        fourEqualChildren();
        equalNodesOnce();
        equalLeavesOnce();
        policyDoesNotMatter();
        diagramsOfLaterPolicies();
        sharedWithItself();
        sharedByNone();
        sharedByOne();
        sharedByMost();
        equalFieldsAndChildren();
        slotsOutOfRange();
        Check.end();
    }

    private static String packet(int p) {
        return "x=" + p / 16 + ".y=" + p / 4 % 4 + ".z=" + p % 4;
    }

    private static String assigned(int p) {
        return "x:" + p / 16 + ".y:" + p / 4 % 4 + ".z:" + p % 4;
    }

    private static int entry(int from, int to) {
        return from % 4 == to % 4 ? 4 : to % 4;
    }

    private static void actionsBetweenAllPackets() {
        Check.sentence("For a packet p and a packet q into which a policy turns it, the action has one entry "
                + "for each field: 4 if q has the same value as p in this field (keep), otherwise the value of "
                + "q in this field.");
        for (int q = 0; q < 64; q++) {
            PolicyCompiler x = Check.holding(assigned(q));
            for (int p = 0; p < 64; p++) {
                int want = 25 * entry(p / 16, q / 16) + 5 * entry(p / 4, q / 4) + entry(p, q);
                int row = x.hit(0, p);
                Check.due("number of actions from " + p + " to " + q, x.action(0, row, -1), 1);
                Check.due("action from " + p + " to " + q, x.action(0, row, 0), want);
            }
        }
    }

    private static void leastAndGreatestActions() {
        Check.sentence("The action is written as the number 25 * (entry of x) + 5 * (entry of y) + (entry of z).");
        PolicyCompiler x = Check.holding(packet(63) + "." + assigned(0), "1", packet(0) + ".x:3",
                packet(0) + "." + assigned(63));
        Check.due("all fields to 0", x.action(0, 0, 0), 0);
        Check.due("all fields kept", x.action(1, 0, 0), 124);
        Check.due("x to 3", x.action(2, 0, 0), 99);
        Check.due("all fields to 3", x.action(3, 0, 0), 93);
    }

    private static void actionSets() {
        Check.sentence("The action set of p is the set of the actions for all packets q into which the "
                + "policy turns p.");
        PolicyCompiler x = Check.holding(packet(63) + ".(x:0+1+y:1+x:1+z:2+x:1)");
        int[] actions = {24, 49, 109, 122, 124};
        Check.due("number of actions", x.action(0, 0, -1), 5);
        for (int i = 0; i < 5; i++) {
            Check.due("action " + i, x.action(0, 0, i), actions[i]);
        }
        Check.due("action 5", x.action(0, 0, 5), -1);
        // Assigning the value that a field has already is keeping it: one action.
        PolicyCompiler y = Check.holding(packet(63) + ".(1+x:3+y:3+z:3)", "0");
        Check.due("number of actions", y.action(0, 0, -1), 1);
        Check.due("action 0", y.action(0, 0, 0), 124);
        Check.due("the empty action set has a leaf", y.leaves(1), 1);
    }

    private static void dueShape(String text, int size, int leaves, int depth) {
        PolicyCompiler x = Check.holding(text);
        Check.due("diagramSize of " + text, x.diagramSize(0), size);
        Check.due("leaves of " + text, x.leaves(0), leaves);
        Check.due("diagramDepth of " + text, x.diagramDepth(0), depth);
        Check.due("sharedNodes of " + text + " with itself", x.sharedNodes(0, 0), size);
    }

    private static void smallestDiagrams() {
        Check.sentence("Its size is the number of its nodes, leaves included;");
        for (String text : new String[] {"0", "1", "!0", "!1", "0*", "1*", "x=0*", "x=0+!x=0", "x=0.!x=0",
            "x=0+x=1+x=2+x=3", "y:0.y=1", "[x=0?1|1]", "[x=0?y=1.0|0]"}) {
            dueShape(text, 1, 1, 0);
        }
    }

    private static void deepestDiagrams() {
        Check.sentence("its depth is the greatest number of test nodes on a way from the root to a leaf.");
        for (int p = 0; p < 64; p++) {
            dueShape(packet(p), 5, 2, 3);
        }
        dueShape("!(" + packet(0) + ")", 5, 2, 3);
        dueShape("x=1+y=1+z=1", 5, 2, 3);
        // Of 16 nodes for z two are different.
        dueShape("[x=0?[y=0?z=0|z=1]|[y=0?z=1|z=0]]", 7, 2, 3);
    }

    private static void largestDiagram() {
        Check.sentence("Returns the number of nodes;");
        dueShape(EVERYTHING, 85, 64, 3);
        dueShape(EVERYTHING + "*", 85, 64, 3);
        // Each way to a leaf of its own, but for the packets without an action.
        dueShape(EVERYTHING + ".!(x=0.y=0.z=0)", 85, 64, 3);
        dueShape("!(x=0.y=0.z=0)." + EVERYTHING, 85, 64, 3);
        dueShape("!(x=0.y=0.(z=0+z=1))." + EVERYTHING, 84, 63, 3);
        dueShape("!(x=0.y=0)." + EVERYTHING, 81, 61, 3);
        dueShape("!x=0." + EVERYTHING, 65, 49, 3);
    }

    private static void depthsFrom0To3() {
        Check.sentence("Returns the depth, 0 to 3;");
        PolicyCompiler x = Check.holding("1", "z=3", "y=3.z=3", "x=3.y=3.z=3");
        for (int s = 0; s < 4; s++) {
            Check.due("diagramDepth(" + s + ")", x.diagramDepth(s), s);
        }
    }

    private static void leavesFrom1To64() {
        Check.sentence("Returns the number of leaves;");
        // The packets from 0 to n - 1 have action sets of their own, the others the empty one.
        for (int n = 0; n < 64; n++) {
            String before = "x=" + n / 16 + ".(y=" + n / 4 % 4 + "." + below("z", n % 4) + "+" + below("y", n / 4 % 4)
                    + ")+" + below("x", n / 16);
            PolicyCompiler x = Check.holding(before, EVERYTHING);
            Check.due("size", Check.parse(x, 2, "p.q"), x.size(0) + 24);
            Check.due("leaves of the first " + n, x.leaves(2), n + 1);
        }
        dueShape(EVERYTHING, 85, 64, 3);
    }

    /** The test whether a field has a value less than this one. */
    private static String below(String field, int value) {
        StringBuilder test = new StringBuilder("(0");
        for (int v = 0; v < value; v++) {
            test.append('+').append(field).append('=').append(v);
        }
        return test.append(')').toString();
    }

    private static void depthsOfWays() {
        Check.sentence("its depth is the greatest number of test nodes on a way from the root to a leaf.");
        for (String test : new String[] {"x=0", "x=3", "y=0", "y=3", "z=0", "z=3", "x:0", "y:3", "z:2", "!z=1"}) {
            dueShape(test, 3, 2, 1);
        }
        dueShape("x=1.y=2", 4, 2, 2);
        dueShape("x=1.z=2", 4, 2, 2);
        dueShape("y=1.z=2", 4, 2, 2);
        // Three fields, but at most two on a way.
        dueShape("[x=0?y=1|z=1]", 5, 2, 2);
        dueShape("x=0.y=1+x=3.z=1", 5, 2, 2);
        // The longest way is the last one, or the first one.
        dueShape("[x=3?y=3.z=3|x=2]", 5, 2, 3);
        dueShape("[x=0?y=0.z=0|x=1]", 5, 2, 3);
        // A way that leaves a field out.
        dueShape("x=0.z=0+x=1.y=0.z=0", 5, 2, 3);
    }

    private static void fieldsInAscendingOrder() {
        Check.sentence("On each way the fields of the test nodes are in ascending order,");
        PolicyCompiler x = Check.holding("z=1.y=2.x=3", "x=3.y=2.z=1");
        Check.due("sharedNodes(0, 1)", x.sharedNodes(0, 1), 5);
        Check.due("diagramSize(0)", x.diagramSize(0), 5);
        // With z first there would be 5 nodes, and ways of two tests.
        dueShape("z=1.x=1+z=2.y=1", 8, 2, 3);
        dueShape("z=1.y=1+z=2.x=1", 8, 2, 3);
        Check.due("the first demand is that of x", Check.holding("z=1.y=2.x=3").match(0, 0, 0), 3);
    }

    private static void fourEqualChildren() {
        Check.sentence("no test node has four equal children,");
        dueShape("[x=0?y=1|[x=1?y=1|y=1]]", 3, 2, 1);
        dueShape("x=0.y=1+x=1.y=1+x=2.y=1+x=3.y=1", 3, 2, 1);
        dueShape("x=0.y=1+x=1.y=1+x=2.y=1", 4, 2, 2);
        dueShape("x=0.(z=0+!z=0)+x=1.z=0", 4, 2, 2);
        dueShape("(y=0+y=1+y=2+y=3).z=1", 3, 2, 1);
        dueShape("(y=0+y=1+y=2).z=1", 4, 2, 2);
    }

    private static void equalNodesOnce() {
        Check.sentence("and equal nodes exist only once (leaves are equal if their action sets are equal, test "
                + "nodes if their fields and all their children are equal).");
        dueShape("x=0.z=1+x=3.z=1", 4, 2, 2);
        dueShape("x=0.y=0.z=1+x=3.y=3.z=1", 6, 2, 3);
        dueShape("x=0.y=2.z=1+x=3.y=2.z=1", 5, 2, 3);
        dueShape("x=0.z=1+x=3.z=2", 5, 2, 2);
        // The same children, but in another order, or at another field.
        dueShape("x=0.z=0+x=1.z=3", 5, 2, 2);
        dueShape("x=0.y=1+x=1.z=1", 5, 2, 2);
    }

    private static void equalLeavesOnce() {
        Check.sentence("leaves are equal if their action sets are equal,");
        // Into different packets, but by the same action; into the same packet, but by another one.
        dueShape("(x=0+x=1).x:3", 3, 2, 1);
        dueShape("(x=0+x=3).x:3", 4, 3, 1);
        dueShape("x=0.x:3+x=1.(x:2.x:3)", 3, 2, 1);
        dueShape("x=0.(x:2+x:3)+x=1.(x:3+x:2)", 3, 2, 1);
        dueShape("x=0.(x:2+x:3)+x=1.x:2", 4, 3, 1);
        dueShape("x=0.(x:2+1)+x=1.(x:3+1)", 4, 3, 1);
    }

    private static void policyDoesNotMatter() {
        Check.sentence("These rules determine the diagram.");
        String[][] equals = {{"x=1.y:2", "y:2.x=1"}, {"(x:1+y:2).(x:1+y:2)", "x:1+y:2+x:1.y:2"},
            {"x=0*", "1"}, {"!(x=1+y=1)", "!x=1.!y=1"}, {"[x=1?y:1|z:2]", "x=1.y:1+!x=1.z:2"},
            {"x:1.y:1", "y:1.x:1"}, {"(x:1+y:2)*", "1+x:1+y:2+x:1.y:2"}};
        for (String[] pair : equals) {
            PolicyCompiler x = Check.holding(pair);
            Check.due("compare of " + pair[0], x.compare(0, 1), 0);
            Check.due("diagramSize of " + pair[0], x.diagramSize(0), x.diagramSize(1));
            Check.due("leaves of " + pair[0], x.leaves(0), x.leaves(1));
            Check.due("diagramDepth of " + pair[0], x.diagramDepth(0), x.diagramDepth(1));
            Check.due("sharedNodes of " + pair[0], x.sharedNodes(0, 1), x.diagramSize(0));
        }
    }

    private static void dueSlot(PolicyCompiler x, int slot, int size, int leaves, int depth, int rows) {
        Check.due("diagramSize(" + slot + ")", x.diagramSize(slot), size);
        Check.due("leaves(" + slot + ")", x.leaves(slot), leaves);
        Check.due("diagramDepth(" + slot + ")", x.diagramDepth(slot), depth);
        Check.due("sharedNodes(" + slot + ", " + slot + ")", x.sharedNodes(slot, slot), size);
        Check.due("rows(" + slot + ")", x.rows(slot), rows);
    }

    /** What a slot held before leaves no node behind. */
    private static void diagramsOfLaterPolicies() {
        Check.sentence("These rules determine the diagram.");
        PolicyCompiler x = Check.holding(EVERYTHING);
        dueSlot(x, 0, 85, 64, 3, 64);
        Check.due("parse of 0", Check.parse(x, 0, "0"), 1);
        dueSlot(x, 0, 1, 1, 0, 0);
        Check.due("parse of x=1.y:2", Check.parse(x, 0, "x=1.y:2"), 3);
        dueSlot(x, 0, 5, 3, 2, 2);
        Check.due("combine(0, 0, 1, 0)", x.combine(0, 0, 1, 0), 5);
        Check.due("modify(0, 1, 0)", x.modify(0, 1, 0), 2);
        dueSlot(x, 0, 1, 1, 0, 1);
        x.undo();
        x.undo();
        dueSlot(x, 0, 5, 3, 2, 2);
        x.undo();
        x.undo();
        dueSlot(x, 0, 85, 64, 3, 64);
        x.undo();
        dueSlot(x, 0, 1, 1, 0, 1);
    }

    private static void sharedWithItself() {
        Check.sentence("Returns the number of nodes of the diagram of a that are equal to a node of the diagram "
                + "of b;");
        String[] texts = {"0", "1", "x=1", "x=1.y=1.z=1", "x=0.z=1+x=3.z=2", "(x:1+y:2)*"};
        int[] sizes = {1, 1, 3, 5, 5, 7};
        for (int i = 0; i < texts.length; i++) {
            PolicyCompiler x = Check.holding(texts[i], texts[i]);
            Check.due("sharedNodes(0, 0) of " + texts[i], x.sharedNodes(0, 0), sizes[i]);
            Check.due("sharedNodes(0, 1) of " + texts[i], x.sharedNodes(0, 1), sizes[i]);
            Check.due("diagramSize(0) of " + texts[i], x.diagramSize(0), sizes[i]);
        }
        Check.due("sharedNodes(3, 3)", new PolicyCompiler().sharedNodes(3, 3), 1);
        Check.due("the largest one", Check.holding(EVERYTHING).sharedNodes(0, 0), 85);
    }

    private static void dueShared(String a, String b, int shared) {
        PolicyCompiler x = Check.holding(a, b);
        Check.due("sharedNodes of " + a + " and " + b, x.sharedNodes(0, 1), shared);
        Check.due("sharedNodes of " + b + " and " + a, x.sharedNodes(1, 0), shared);
    }

    private static void sharedByNone() {
        Check.sentence("Returns the number of nodes that the diagrams of two policies have in common.");
        dueShared("0", "1", 0);
        dueShared("x=1", EVERYTHING, 0);
        dueShared("x:1", "x=1.x=2", 0);
        dueShared("x:0", EVERYTHING, 0);
        dueShared("x:0+1", "x:1+1.0", 1);
    }

    private static void sharedByOne() {
        Check.sentence("Returns the number of nodes that the diagrams of two policies have in common.");
        dueShared("1", "x=1", 1);
        dueShared("0", "x=1", 1);
        dueShared("1", "x:1", 1);
        dueShared("x:1", "y:1", 1);
        dueShared("x:1", "x:2", 1);
        dueShared("0", "x=3.y=3.z=3", 1);
    }

    private static void sharedByMost() {
        Check.sentence("Returns the number of nodes that the diagrams of two policies have in common.");
        // All nodes of the smaller one, and all but the nodes above a change.
        dueShared("y=1", "x=1.y=1", 3);
        dueShared("z=1", "x=1.y=1.z=1", 3);
        dueShared("y=2.z=1", "x=1.y=2.z=1", 4);
        dueShared("x=1.z=1", "x=1.y=1.z=1", 3);
        dueShared("x=1.y=1.z=1", "x=2.y=1.z=1", 4);
        dueShared("x=1.y=1.z=1", "x=1.y=2.z=1", 3);
        dueShared("x=1.y=1.z=1", "x=1.y=1.z=2", 2);
        dueShared(EVERYTHING, EVERYTHING + ".1", 85);
        dueShared(EVERYTHING, "!(x=3.y=3.z=3)." + EVERYTHING, 81);
        dueShared(EVERYTHING, "!(x=3.y=3)." + EVERYTHING, 78);
        dueShared(EVERYTHING, "!x=3." + EVERYTHING, 63);
    }

    private static void equalFieldsAndChildren() {
        Check.sentence("test nodes if their fields and all their children are equal");
        // The leaves are shared, the test nodes differ in the field alone, or in one child alone.
        dueShared("x=1", "y=1", 2);
        dueShared("y=1", "z=1", 2);
        for (int v = 0; v < 4; v++) {
            dueShared("!z=" + v, "z=" + (v + 1) % 4 + "+z=" + (v + 2) % 4, 2);
            dueShared("x=" + v, "x=" + v + "+x=" + (v + 1) % 4, 2);
        }
        // A child that is a leaf in one and a test node in the other.
        dueShared("x=0.y=1", "x=0", 2);
        dueShared("x=3.z=1", "x=3", 2);
    }

    private static void slotsOutOfRange() {
        Check.sentence("OUT_OF_RANGE if slot is out of range.");
        PolicyCompiler x = new PolicyCompiler();
        for (int slot : NO_SLOTS) {
            Check.due("diagramSize(" + slot + ")", x.diagramSize(slot), -2);
            Check.due("leaves(" + slot + ")", x.leaves(slot), -2);
            Check.due("diagramDepth(" + slot + ")", x.diagramDepth(slot), -2);
        }
        Check.due("errorCount(-2)", x.errorCount(-2), 3 * NO_SLOTS.length);
        Check.sentence("OUT_OF_RANGE if an argument is out of range.");
        for (int slot : NO_SLOTS) {
            for (int other : new int[] {0, 3, slot}) {
                Check.due("sharedNodes(" + slot + ", " + other + ")", x.sharedNodes(slot, other), -2);
                Check.due("sharedNodes(" + other + ", " + slot + ")", x.sharedNodes(other, slot), -2);
            }
        }
        Check.due("errorCount(-2)", x.errorCount(-2), 9 * NO_SLOTS.length);
    }
}
