import java.util.TreeSet;

/** The walk through "Actions", "Diagram" and "Table". */
final class DiagramWalk {
    private static final String EVERYTHING =
            "(x:0+x:1+x:2+x:3).(y:0+y:1+y:2+y:3).(z:0+z:1+z:2+z:3)";
    private static final String[] POLICIES = {"0", "1", "x=1", "x:1+1", "x=1.y:2", "y=0.z=0+x=3", "(x:1+y:2)*",
        "[x=0?y:1|z:2]", "!(x=2.y=2)", "(x=0.x:1+x=1.x:2+x=2.x:3)*.!z=3", "z=3.(x:0+x:3).y:1+y=2.z:0*", EVERYTHING};

    private DiagramWalk() {
    }

    static void walk() {
        actions();
        actionNumbers();
        actionSets();
        nodes();
        ways();
        order();
        equalChildren();
        equalNodes();
        sizeAndDepth();
        rowsOfTables();
        firstRow();
        walkFromTheRoot();
        mainChild();
        otherChildren();
        emptyRowsAtTheEnd();
        droppedPackets();
    }

    private static int entry(int packet, int output, int field) {
        int value = DescriptionWalk.value(output, field);
        return DescriptionWalk.value(packet, field) == value ? 4 : value;
    }

    private static int action(int packet, int output) {
        return 25 * entry(packet, output, 0) + 5 * entry(packet, output, 1) + entry(packet, output, 2);
    }

    private static String assignment(int p) {
        return "x:" + DescriptionWalk.value(p, 0) + ".y:" + DescriptionWalk.value(p, 1) + ".z:"
                + DescriptionWalk.value(p, 2);
    }

    private static void actions() {
        Walk.free("Actions.");
        Walk.next("For a packet p and a packet q into which a policy turns it, the action has one entry for each "
                + "field: 4 if q has the same value as p in this field (keep), otherwise the value of q in this "
                + "field.");
        String packet = "x=1.y=2.z=3.";
        Check.dueTable(packet + "x:1.y:2.z:3", "123 124 #1");
        Check.dueTable(packet + "x:0.y:2.z:3", "123 24 #1");
        Check.dueTable(packet + "x:1.y:0.z:3", "123 104 #1");
        Check.dueTable(packet + "x:1.y:2.z:0", "123 120 #1");
        Check.dueTable(packet + "x:3.y:2.z:0", "123 95 #1");
    }

    private static void actionNumbers() {
        Walk.next("The action is written as the number 25 * (entry of x) + 5 * (entry of y) + (entry of z).");
        for (int q = 0; q < 64; q++) {
            PolicyCompiler x = Check.holding(assignment(q));
            for (int p = 0; p < 64; p++) {
                Check.due("the action from " + p + " to " + q, x.action(0, x.hit(0, p), 0), action(p, q));
            }
        }
    }

    /** Notes whether the row that a packet hits has the actions to all packets that it is turned into. */
    private static void dueActions(String policy, PolicyCompiler x, int packet) {
        long outputs = x.outputs(0, packet);
        boolean[] due = new boolean[125];
        int total = 0;
        for (int q = 0; q < 64; q++) {
            if ((outputs >>> q & 1) == 1) {
                total += due[action(packet, q)] ? 0 : 1;
                due[action(packet, q)] = true;
            }
        }
        int row = x.hit(0, packet);
        Check.due("number of actions", row < 0 ? 0 : x.action(0, row, -1), total);
        int index = 0;
        for (int number = 0; number < 125; number++) {
            if (due[number]) {
                Check.due("action of packet " + packet + " by " + policy, x.action(0, row, index), number);
                index++;
            }
        }
    }

    private static void actionSets() {
        Walk.next("The action set of p is the set of the actions for all packets q into which the policy turns p.");
        for (String policy : POLICIES) {
            for (int p = 0; p < 64; p++) {
                dueActions(policy, Check.holding(policy), p);
            }
        }
        Check.dueTable("x=1.y=1.z=1.(1+x:1+y:1)", "111 124 #1");
        Check.dueTable("x=1.y=1.z=1.(x:0+1+x:3.z:2)", "111 24,97,124 #1");
    }

    private static void dueShape(String policy, int size, int leaves, int depth) {
        PolicyCompiler x = Check.holding(policy);
        Check.due("diagramSize of " + policy, x.diagramSize(0), size);
        Check.due("leaves of " + policy, x.leaves(0), leaves);
        Check.due("diagramDepth of " + policy, x.diagramDepth(0), depth);
    }

    private static void nodes() {
        Walk.free("Diagram.");
        Walk.next("The diagram of a policy is a decision tree with shared nodes.");
        // Below x = 0 and x = 3 stands the same node of y.
        dueShape("x=0.y=1+x=3.y=1", 4, 2, 2);
        Script.holding("sharedNodes(0, 1) = 3; diagramSize(1) = 3", "x=0.y=1+x=3.y=1", "y=1");
        Walk.next("A leaf has an action set.");
        dueShape("0", 1, 1, 0);
        dueShape("1", 1, 1, 0);
        dueShape("x=1.x:0+x=2.x:3+x=3*", 4, 3, 1);
        Walk.next("A test node has a field and four children, one for each value of the field.");
        for (String field : new String[] {"x", "y", "z"}) {
            dueShape("x=1+x=2.x:0+x=3.x:0*".replace("x", field), 5, 4, 1);
        }
        Check.dueTable("x=1+x=2.x:0+x=3.x:0*", "1-- 124 #16", "2-- 24 #16", "3-- 24,124 #16");
    }

    /** The action set of a packet as text, worked out from its outputs. */
    private static String actionsOf(PolicyCompiler x, int packet) {
        TreeSet<Integer> actions = new TreeSet<>();
        long outputs = x.outputs(0, packet);
        for (int q = 0; q < 64; q++) {
            if ((outputs >>> q & 1) == 1) {
                actions.add(action(packet, q));
            }
        }
        return actions.toString();
    }

    private static void ways() {
        Walk.next("For each packet, the way that starts at the root and takes at each test node the child for the "
                + "packet's value ends at a leaf with the action set of the packet.");
        for (String policy : POLICIES) {
            PolicyCompiler x = Check.holding(policy);
            TreeSet<String> different = new TreeSet<>();
            for (int p = 0; p < 64; p++) {
                different.add(actionsOf(x, p));
            }
            Check.due("leaves of " + policy, x.leaves(0), different.size());
        }
    }

    private static void order() {
        Walk.next("On each way the fields of the test nodes are in ascending order,");
        // With z first these would be five nodes each, and no way of three.
        dueShape("z=1.x=1+z=2.y=1", 8, 2, 3);
        dueShape("z=1.y=1+z=2.x=1", 8, 2, 3);
        Script.holding("diagramSize(0) = 5; sharedNodes(0, 1) = 5; sharedNodes(1, 2) = 5; sharedNodes(2, 0) = 5; "
                + "sharedNodes(3, 0) = 4", "x=3.y=2.z=1", "z=1.y=2.x=3", "y=2.x=3.z=1", "z=1.y=2");
    }

    private static void equalChildren() {
        Walk.next("no test node has four equal children,");
        for (String field : new String[] {"x", "y", "z"}) {
            dueShape("x=0+x=1+x=2+x=3".replace("x", field), 1, 1, 0);
            dueShape("x=0+x=1+x=2".replace("x", field), 3, 2, 1);
        }
        dueShape("x=0.y=1+x=1.y=1+x=2.y=1+x=3.y=1", 3, 2, 1);
        dueShape("x=0.y=1+x=1.y=1+x=2.y=1", 4, 2, 2);
        dueShape("x=1.(y=0+y=1+y=2+y=3).z=1", 4, 2, 2);
    }

    private static void equalNodes() {
        Walk.next("and equal nodes exist only once (leaves are equal if their action sets are equal, test nodes if "
                + "their fields and all their children are equal).");
        dueShape("(x=0+x=1).x:3", 3, 2, 1);
        dueShape("(x=0+x=3).x:3", 4, 3, 1);
        dueShape("x=0.z=1+x=3.z=1", 4, 2, 2);
        dueShape("x=0.y=2.z=1+x=3.y=2.z=1", 5, 2, 3);
        // Another child, the same children in another order, another field.
        dueShape("x=0.z=1+x=3.z=1.z:2", 6, 3, 2);
        dueShape("x=0.z=1+x=3.z=2", 5, 2, 2);
        dueShape("x=0.y=1+x=1.z=1", 5, 2, 2);
    }

    private static void sizeAndDepth() {
        Walk.next("These rules determine the diagram.");
        String[][] equals = {{"x=1.y:2", "y:2.x=1"}, {"x=0*", "1"}, {"!(x=1+y=1)", "!x=1.!y=1"},
            {"[x=1?y:1|z:2]", "x=1.y:1+!x=1.z:2"}, {"(x:1+y:2)*", "1+x:1+y:2+x:1.y:2"}};
        for (String[] pair : equals) {
            PolicyCompiler x = Check.holding(pair);
            Check.due("compare of " + pair[0], x.compare(0, 1), 0);
            Check.due("sharedNodes of " + pair[0], x.sharedNodes(0, 1), x.diagramSize(0));
            Check.due("diagramSize of " + pair[1], x.diagramSize(1), x.diagramSize(0));
        }
        Walk.next("Its size is the number of its nodes, leaves included;");
        dueShape("1", 1, 1, 0);
        dueShape("x=1", 3, 2, 1);
        dueShape(EVERYTHING, 64 + 16 + 4 + 1, 64, 3);
        Walk.next("its depth is the greatest number of test nodes on a way from the root to a leaf.");
        dueShape("x=1.z=1", 4, 2, 2);
        dueShape("x=1.y=1.z=1", 5, 2, 3);
        // Of three fields two stand on a way.
        dueShape("[x=0?y=1|z=1]", 5, 2, 2);
        dueShape("[x=3?y=3.z=3|x=2]", 5, 2, 3);
    }

    private static void rowsOfTables() {
        Walk.free("Table.");
        Walk.next("A row of a table has a match, which demands for each field a value or nothing, and an action set.");
        Check.dueTable("1", "--- 124 #64");
        Check.dueTable("x=1", "1-- 124 #16");
        Check.dueTable("y=2", "-2- 124 #16");
        Check.dueTable("z=3", "--3 124 #16");
        Check.dueTable("x=1.y=0", "10- 124 #4");
        Check.dueTable("x=1.z=3", "1-3 124 #4");
        Check.dueTable("y=2.z=3", "-23 124 #4");
        Check.dueTable("x=1.y=2.z=0", "120 124 #1");
    }

    private static boolean meets(PolicyCompiler x, int row, int packet) {
        boolean meets = true;
        for (int f = 0; f < 3; f++) {
            int demand = x.match(0, row, f);
            meets &= demand == 4 || demand == DescriptionWalk.value(packet, f);
        }
        return meets;
    }

    private static void firstRow() {
        Walk.next("A packet hits the first row whose demands it meets.");
        for (String policy : POLICIES) {
            for (int p = 0; p < 64; p++) {
                PolicyCompiler x = Check.holding(policy);
                int rows = x.rows(0);
                int first = 0;
                while (first < rows && !meets(x, first, p)) {
                    first++;
                }
                Check.due("hit of packet " + p + " in " + policy, x.hit(0, p), first < rows ? first : -1);
            }
        }
    }

    private static void walkFromTheRoot() {
        Walk.next("The table of a policy is made from the diagram by a walk that starts at the root with a match that "
                + "demands nothing.");
        Check.dueTable("x:0", "0-- 124 #16", "--- 24 #48");
        Check.dueTable("y:0", "-0- 124 #16", "--- 104 #48");
        Check.dueTable("z:0", "--0 124 #16", "--- 120 #48");
        Walk.next("At a leaf, a row with the present match and the action set of the leaf is appended to the table.");
        // Two ways to the same leaf are two rows.
        Check.dueTable("x=2+x=3", "2-- 124 #16", "3-- 124 #16");
        Check.dueTable("x=2.y=1+x=3.y=1", "21- 124 #4", "2-- #12", "31- 124 #4");
    }

    private static void mainChild() {
        Walk.next("At a test node, the main child is the child that the most values have (if several children are "
                + "equally frequent, the one among them that the lowest value has);");
        Check.dueTable("x=1+x=2+x=3", "0-- #16", "--- 124 #48");
        Check.dueTable("x=0+x=2+x=3", "1-- #16", "--- 124 #48");
        // Two and one and one.
        Check.dueTable("x=0.x:1+x=1+(x=2+x=3).x:0", "0-- 49 #16", "1-- 124 #16", "--- 24 #32");
        Check.dueTable("(x=0+x=2).x:1+x=1+x=3.x:0", "1-- 124 #16", "3-- 24 #16", "--- 49 #32");
        // Two and two.
        Check.dueTable("x=0+x=1", "2-- #16", "3-- #16", "--- 124 #32");
        Check.dueTable("x=0+x=2", "1-- #16", "3-- #16", "--- 124 #32");
        Check.dueTable("x=0+x=3", "1-- #16", "2-- #16", "--- 124 #32");
        Check.dueTable("y=1+y=3", "-1- 124 #16", "-3- 124 #16");
        // Four different ones.
        Check.dueTable("z=1.z:0+z=2+z=3.z:0*", "--1 120 #16", "--2 124 #16", "--3 120,124 #16");
        Check.dueTable("z=0+z=2.z:0+z=3.z:0*", "--1 #16", "--2 120 #16", "--3 120,124 #16", "--- 124 #16");
    }

    private static void otherChildren() {
        Walk.next("first, for each value in ascending order whose child is not the main child, the walk visits this "
                + "child with the match extended by this value of the field;");
        Check.dueTable("x=1.y=2+x=3.y=2.z=1", "12- 124 #4", "1-- #12", "321 124 #1");
        Check.dueTable("x=3.y=3.(z=2+z=1)", "331 124 #1", "332 124 #1");
        Walk.next("then it visits the main child with the match unchanged.");
        Check.dueTable("[x=0?y:1|z:2]", "01- 124 #4", "0-- 109 #12", "--2 124 #12", "--- 122 #36");
        Check.dueTable("[x=3?1|y=1]", "3-- 124 #16", "-1- 124 #12");
    }

    private static void emptyRowsAtTheEnd() {
        Walk.next("Finally, all rows at the end of the table whose action sets are empty are removed, up to the last "
                + "row with an action set that is not empty.");
        Check.dueTable("0");
        Check.dueTable("x=1.x=2");
        Check.dueTable("x=3.y=3.z=3", "333 124 #1");
        Check.dueTable("x=0.y=1+x=3", "01- 124 #4", "0-- #12", "3-- 124 #16");
        Check.dueTable("!x=2", "2-- #16", "--- 124 #48");
    }

    private static void droppedPackets() {
        Walk.next("A packet that hits no row is dropped (it has the empty action set).");
        for (String policy : POLICIES) {
            PolicyCompiler x = Check.holding(policy);
            for (int p = 0; p < 64; p++) {
                int row = x.hit(0, p);
                boolean dropped = row < 0 || x.action(0, row, -1) == 0;
                Check.that("packet " + p + " is dropped by " + policy, dropped == (x.outputs(0, p) == 0));
            }
        }
        Script.holding("hit(0, 16) = 0; hit(0, 15) = -1; hit(0, 32) = -1; outputs(0, 15) = 0; outputs(0, 32) = 0",
                "x=1");
    }
}
