import java.math.BigInteger;

/** The walk through promises 17 to 28 and to the document's end. */
final class TablePromiseWalk {
    private static final String EVERYTHING =
            "(x:0+x:1+x:2+x:3).(y:0+y:1+y:2+y:3).(z:0+z:1+z:2+z:3)";
    private static final int[] NO_SLOTS = {-1, 4, 5, Integer.MIN_VALUE, Integer.MAX_VALUE};

    private TablePromiseWalk() {
    }

    static void walk() {
        diagramSize();
        leaves();
        diagramDepth();
        sharedNodes();
        rows();
        match();
        action();
        hit();
        hits();
        undo();
        errorCount();
        digest();
        notPromised();
    }

    private static void diagramSize() {
        Walk.promise(17, "diagramSize", "int diagramSize(int slot)");
        Walk.free("---- diagrams");
        Walk.next("Returns the size of the diagram of a policy.");
        PolicyCompiler x = Check.holding("1", "x=1", "x=1.y:2", EVERYTHING);
        Walk.next("- `slot`: 0 to 3");
        Script.run(x, "diagramSize(0) = 1; diagramSize(1) = 3; diagramSize(2) = 5; diagramSize(3) = 85");
        Walk.next("Returns the number of nodes;");
        Script.holding("diagramSize(0) = 4; diagramSize(1) = 5; diagramSize(2) = 6; parse(0) = 1; diagramSize(0) = 1; "
                + "undo() = 4; diagramSize(0) = 4", "x=0.y=1+x=3.y=1", "x=0.y=1+x=3.y=2",
                "x=0.y=1+x=1.y=2+x=3.z=3+0", "0");
        Walk.next("OUT_OF_RANGE if slot is out of range.");
        for (int s : NO_SLOTS) {
            Check.due("diagramSize(" + s + ")", x.diagramSize(s), -2);
        }
        Script.run(x, "errorCount(-2) = 5");
    }

    private static void leaves() {
        Walk.promise(18, "leaves", "int leaves(int slot)");
        Walk.next("Returns the number of leaves of the diagram of a policy.");
        PolicyCompiler x = Check.holding("0", "x=1", "x=1.y:2", EVERYTHING);
        Walk.next("- `slot`: 0 to 3");
        Script.run(x, "leaves(0) = 1; leaves(1) = 2; leaves(2) = 3; leaves(3) = 64");
        Walk.next("Returns the number of leaves;");
        Script.holding("leaves(0) = 4; leaves(1) = 2; leaves(2) = 3; leaves(3) = 1", "x=1+x=2.x:0+x=3.x:0*",
                "x=1.y=2.z=3", "(x=0+x=3).x:3", "x=0*+x=1");
        Walk.next("OUT_OF_RANGE if slot is out of range.");
        for (int s : NO_SLOTS) {
            Check.due("leaves(" + s + ")", x.leaves(s), -2);
        }
        Script.run(x, "errorCount(-2) = 5");
    }

    private static void diagramDepth() {
        Walk.promise(19, "diagramDepth", "int diagramDepth(int slot)");
        Walk.next("Returns the depth of the diagram of a policy.");
        PolicyCompiler x = Check.holding("1", "y=1", "x=1.z=2", "x=1.y=2.z=3");
        Walk.next("- `slot`: 0 to 3");
        Script.run(x, "diagramDepth(0) = 0; diagramDepth(1) = 1; diagramDepth(2) = 2; diagramDepth(3) = 3");
        Walk.next("Returns the depth, 0 to 3;");
        Script.holding("diagramDepth(0) = 0; diagramDepth(1) = 3; diagramDepth(2) = 2; diagramDepth(3) = 1", "0",
                EVERYTHING, "[x=0?y=1|z=1]", "z:3");
        Walk.next("OUT_OF_RANGE if slot is out of range.");
        for (int s : NO_SLOTS) {
            Check.due("diagramDepth(" + s + ")", x.diagramDepth(s), -2);
        }
        Script.run(x, "errorCount(-2) = 5");
    }

    private static void sharedNodes() {
        Walk.promise(20, "sharedNodes", "int sharedNodes(int a, int b)");
        Walk.next("Returns the number of nodes that the diagrams of two policies have in common.");
        PolicyCompiler x = Check.holding("x=1.y=1.z=1", "x=2.y=1.z=1", "x=1", "x:1");
        Walk.next("- `a`: a slot");
        Script.run(x, "sharedNodes(0, 1) = 4; sharedNodes(1, 1) = 5; sharedNodes(2, 1) = 2; sharedNodes(3, 1) = 1");
        Walk.next("- `b`: a slot");
        Script.run(x, "sharedNodes(1, 0) = 4; sharedNodes(1, 1) = 5; sharedNodes(1, 2) = 2; sharedNodes(1, 3) = 1");
        Walk.next("Returns the number of nodes of the diagram of a that are equal to a node of the diagram of b;");
        // Leaves; leaves and a test node; test nodes of other fields; no node at all; all nodes.
        Script.holding("sharedNodes(0, 1) = 2; sharedNodes(0, 2) = 3; sharedNodes(2, 0) = 3; sharedNodes(1, 2) = 2; "
                + "sharedNodes(3, 0) = 0; sharedNodes(0, 3) = 0; sharedNodes(3, 3) = 4", "z=1", "y=1", "x=2.z=1",
                "x:0+x:1");
        Script.holding("sharedNodes(0, 1) = 0; sharedNodes(1, 2) = 1; sharedNodes(0, 0) = 85; sharedNodes(0, 3) = 63; "
                + "sharedNodes(3, 0) = 63", EVERYTHING, "x:0.y:0.z:0", "1", "!x=3." + EVERYTHING);
        Walk.next("OUT_OF_RANGE if an argument is out of range.");
        for (int s : NO_SLOTS) {
            Check.due("sharedNodes(" + s + ", 0)", x.sharedNodes(s, 0), -2);
            Check.due("sharedNodes(0, " + s + ")", x.sharedNodes(0, s), -2);
            Check.due("sharedNodes(" + s + ", " + s + ")", x.sharedNodes(s, s), -2);
        }
        Script.run(x, "errorCount(-2) = 15");
    }

    private static void rows() {
        Walk.promise(21, "rows", "int rows(int slot)");
        Walk.free("---- tables");
        Walk.next("Returns the number of rows of the table of a policy.");
        PolicyCompiler x = Check.holding("0", "1", "x=1.y:2", EVERYTHING);
        Walk.next("- `slot`: 0 to 3");
        Script.run(x, "rows(0) = 0; rows(1) = 1; rows(2) = 2; rows(3) = 64");
        Walk.next("Returns the number of rows;");
        Script.holding("rows(0) = 2; rows(1) = 3; rows(2) = 4; rows(3) = 1", "!x=2", "x=0.y=1+x=3", "[x=0?y:1|z:2]",
                "x=3.y=3.z=3");
        Walk.next("OUT_OF_RANGE if slot is out of range.");
        for (int s : NO_SLOTS) {
            Check.due("rows(" + s + ")", x.rows(s), -2);
        }
        Script.run(x, "errorCount(-2) = 5");
    }

    private static void match() {
        Walk.promise(22, "match", "int match(int slot, int row, int field)");
        Walk.next("Returns what the match of a row demands of a field.");
        PolicyCompiler x = Check.holding("x=3.y=2.z=1", "x=1.z=0", "y=0", "[x=0?y:1|z:2]");
        Walk.next("- `slot`: 0 to 3");
        Script.run(x, "match(0, 0, 0) = 3; match(1, 0, 0) = 1; match(2, 0, 1) = 0; match(3, 0, 0) = 0");
        Walk.next("- `row`: index of the row, from 0");
        Script.run(x, "match(3, 0, 1) = 1; match(3, 1, 1) = 4; match(3, 2, 2) = 2; match(3, 3, 2) = 4; "
                + "match(3, 2, 0) = 4");
        Walk.next("- `field`: 0 for x, 1 for y, 2 for z");
        Script.run(x, "match(0, 0, 0) = 3; match(0, 0, 1) = 2; match(0, 0, 2) = 1");
        Walk.next("Returns the demanded value, or 4 if nothing is demanded;");
        Script.run(x, "match(1, 0, 0) = 1; match(1, 0, 1) = 4; match(1, 0, 2) = 0; match(2, 0, 0) = 4; "
                + "match(2, 0, 2) = 4");
        Walk.next("OUT_OF_RANGE if slot or field is out of range or there is no such row.");
        for (int s : NO_SLOTS) {
            Check.due("match(" + s + ", 0, 0)", x.match(s, 0, 0), -2);
            Check.due("match(3, " + s + ", 0)", x.match(3, s, 0), -2);
            Check.due("match(0, 0, " + s + ")", x.match(0, 0, s), -2);
        }
        Script.run(x, "match(0, 0, 3) = -2; match(0, 1, 0) = -2; errorCount(-2) = 17");
        Script.holding("match(0, 0, 0) = -2; match(0, -1, 0) = -2", "0");
    }

    private static void action() {
        Walk.promise(23, "action", "int action(int slot, int row, int index)");
        Walk.next("Returns an action of the action set of a row.");
        PolicyCompiler x = Check.holding("x=1.y:2", "z:0+x:1+1", "!x=2", EVERYTHING);
        Walk.next("- `slot`: 0 to 3");
        Script.run(x, "action(0, 0, 0) = 124; action(1, 1, 0) = 120; action(2, 1, 0) = 124; action(3, 0, 63) = 124");
        Walk.next("- `row`: index of the row, from 0");
        Script.run(x, "action(0, 1, 0) = 114; action(2, 0, -1) = 0; action(3, 63, 0) = 31");
        Walk.next("- `index`: index of the action in ascending order of the numbers of the actions, from 0, or -1 for "
                + "the number of actions");
        // Row 3 is that of the packets with neither x = 1 nor z = 0.
        Script.run(x, "rows(1) = 4; action(1, 3, -1) = 3; action(1, 3, 0) = 49; action(1, 3, 1) = 120; "
                + "action(1, 3, 2) = 124");
        Walk.next("Returns the action, 0 to 124, or the number of actions if index is -1;");
        Script.holding("action(0, 0, 0) = 0; action(0, 0, -1) = 1; action(1, 0, 0) = 124; action(1, 0, -1) = 1; "
                + "action(2, 0, 0) = 93; action(3, 0, 0) = 49; action(3, 0, 1) = 62; action(3, 0, 2) = 63; "
                + "action(3, 0, 3) = 64; action(3, 0, 4) = 124; action(3, 0, 5) = -1", "x=3.y=3.z=3.x:0.y:0.z:0", "1",
                "x=0.y=0.z=0.x:3.y:3.z:3", "x=3.y=3.z=0.(1+x:1+x:2.y:2.(z:2+z:3+1))");
        Check.due("number of actions", x.action(3, 17, -1), 64);
        Walk.next("NONE if there are not so many actions;");
        Script.run(x, "action(0, 0, 1) = -1; action(2, 0, 0) = -1; action(1, 3, 3) = -1; action(3, 0, 64) = -1; "
                + "action(3, 0, 2147483647) = -1; errorCount(-2) = 0");
        Walk.next("OUT_OF_RANGE if slot is out of range, there is no such row, or index is less than -1.");
        for (int s : NO_SLOTS) {
            Check.due("action(" + s + ", 0, 0)", x.action(s, 0, 0), -2);
            Check.due("action(1, " + s + ", 0)", x.action(1, s, 0), -2);
        }
        Script.run(x, "action(0, 0, -2) = -2; action(0, 0, -2147483648) = -2; action(0, 2, -1) = -2; "
                + "action(3, 64, 0) = -2; errorCount(-2) = 14");
    }

    private static void hit() {
        Walk.promise(24, "hit", "int hit(int slot, int packet)");
        Walk.next("Returns the row that a packet hits.");
        PolicyCompiler x = Check.holding("x=1.y:2", "!x=2", "[x=0?y:1|z:2]", EVERYTHING);
        Walk.next("- `slot`: 0 to 3");
        Script.run(x, "hit(0, 20) = 1; hit(1, 20) = 1; hit(2, 20) = 3; hit(3, 20) = 3");
        Walk.next("- `packet`: 0 to 63");
        Script.run(x, "hit(3, 0) = 63; hit(3, 21) = 0; hit(3, 63) = 42; hit(2, 0) = 1; hit(2, 7) = 0; hit(2, 62) = 2; "
                + "hit(2, 63) = 3");
        Walk.next("Returns the index of the row;");
        Script.run(x, "hit(0, 24) = 0; hit(0, 27) = 0; hit(0, 16) = 1; hit(0, 28) = 1; hit(1, 32) = 0; "
                + "hit(1, 47) = 0; hit(1, 48) = 1");
        Walk.next("NONE if it hits none;");
        Script.run(x, "hit(0, 0) = -1; hit(0, 15) = -1; hit(0, 32) = -1; hit(0, 63) = -1; errorCount(-2) = 0");
        Script.holding("hit(0, 0) = -1; hit(0, 63) = -1", "0");
        Walk.next("OUT_OF_RANGE if an argument is out of range.");
        for (int s : NO_SLOTS) {
            Check.due("hit(" + s + ", 0)", x.hit(s, 0), -2);
        }
        Script.run(x, "hit(0, -1) = -2; hit(0, 64) = -2; hit(3, -2147483648) = -2; hit(3, 2147483647) = -2; "
                + "errorCount(-2) = 9");
    }

    private static void hits() {
        Walk.promise(25, "hits", "int hits(int slot, int row)");
        Walk.next("Counts the packets that hit a row.");
        PolicyCompiler x = Check.holding("x=1.y:2", "!x=2", "[x=0?y:1|z:2]", EVERYTHING);
        Walk.next("- `slot`: 0 to 3");
        Script.run(x, "hits(0, 0) = 4; hits(1, 0) = 16; hits(2, 0) = 4; hits(3, 0) = 1");
        Walk.next("- `row`: index of the row, from 0");
        Script.run(x, "hits(2, 1) = 12; hits(2, 2) = 12; hits(2, 3) = 36; hits(3, 63) = 1");
        Walk.next("Returns the number of packets;");
        Script.run(x, "hits(0, 1) = 12; hits(1, 1) = 48");
        Script.holding("hits(0, 0) = 64; hits(1, 0) = 1; hits(2, 0) = 16; hits(2, 1) = 48", "1", "x=0.y=0.z=0", "y:3");
        Walk.next("OUT_OF_RANGE if slot is out of range or there is no such row.");
        for (int s : NO_SLOTS) {
            Check.due("hits(" + s + ", 0)", x.hits(s, 0), -2);
            Check.due("hits(2, " + s + ")", x.hits(2, s), -2);
        }
        Script.run(x, "hits(0, 2) = -2; hits(3, 64) = -2; errorCount(-2) = 12; combine(0, 0, 0, 0) = 7; "
                + "hits(0, 2) = -2");
        Script.holding("hits(0, 0) = -2", "0");
    }

    private static void undo() {
        Walk.promise(26, "undo", "int undo()");
        Walk.free("---- state");
        Walk.next("Restores the most recently saved state and removes it from the saved states.");
        PolicyCompiler x = Check.holding("x=0", "x=1.y:2");
        Script.run(x, "combine(0, 0, 1, 2) = 5; modify(0, 1, 0) = 4; modify(1, 2, 2) = -3; undo() = 3; size(0) = 1; "
                + "size(2) = 5; accepted(0) = 65535; isPredicate(0) = 1; rows(0) = 1; undo() = 2; size(2) = 1; "
                + "accepted(2) = -1; modify(1, 0, 3) = 2; undo() = 2; size(3) = 1; undo() = 1; size(1) = 1; "
                + "accepted(1) = -1; diagramSize(1) = 1");
        Walk.next("Returns the number of saved states that remain;");
        Script.run(x, "undo() = 0; accepted(0) = -1; modify(0, 0, 0) = 2; modify(0, 0, 1) = 3; modify(0, 0, 2) = 3; "
                + "modify(0, 0, 3) = 3; modify(0, 0, 0) = 3; modify(0, 0, 0) = 4; undo() = 4; undo() = 3; undo() = 2; "
                + "undo() = 1; undo() = 0; size(0) = 2");
        Walk.next("NOTHING_SAVED if there is none.");
        Script.run(x, "undo() = -6; undo() = -6; errorCount(-6) = 2; size(0) = 2");
        Script.run(new PolicyCompiler(), "undo() = -6; errorCount(-6) = 1");
    }

    private static void errorCount() {
        Walk.promise(27, "errorCount", "int errorCount(int code)");
        Walk.next("Returns how often an error code has been returned.");
        PolicyCompiler x = Check.holding("!".repeat(59) + "1", "x:1");
        Check.type(x, "1".repeat(150));
        Script.run(x, "size(4) = -2; append(200) = -2; modify(1, 1, 1) = -3; combine(0, 0, 1, 2) = -4; "
                + "modify(1, 0, 0) = -4; modify(0, 0, 0) = -4; append(49) = -5; append(49) = -5; append(49) = -5; "
                + "append(49) = -5; undo() = 1; undo() = 0; undo() = -6; undo() = -6; undo() = -6; undo() = -6; "
                + "undo() = -6");
        Walk.next("- `code`: an error code, -6 to -2");
        Script.run(x, "errorCount(-6) = 5; errorCount(-5) = 4; errorCount(-4) = 3; errorCount(-3) = 1; "
                + "errorCount(-2) = 2");
        Walk.next("Returns the counter of the code;");
        Script.run(new PolicyCompiler(), "errorCount(-6) = 0; errorCount(-5) = 0; errorCount(-4) = 0; "
                + "errorCount(-3) = 0; errorCount(-2) = 0; hit(0, 64) = -2; errorCount(-2) = 1; errorCount(-2) = 1");
        Walk.next("OUT_OF_RANGE if code is out of range (this increments the counter of OUT_OF_RANGE).");
        Script.run(x, "errorCount(-7) = -2; errorCount(-2) = 3; errorCount(-1) = -2; errorCount(-2) = 4; "
                + "errorCount(0) = -2; errorCount(2) = -2; errorCount(-2147483648) = -2; errorCount(2147483647) = -2; "
                + "errorCount(-2) = 8; errorCount(-3) = 1; errorCount(-6) = 5");
    }

    private static long hash(long start, long... values) {
        long h = start;
        for (long v : values) {
            h = 31 * h + v;
        }
        return h;
    }

    private static long hashOfCounters(PolicyCompiler x, long start) {
        long h = start;
        for (int code = -2; code >= -6; code--) {
            h = hash(h, x.errorCount(code));
        }
        return h;
    }

    private static long hashOfSlot(PolicyCompiler x, int s, long start) {
        long h = hash(start, x.size(s));
        for (char letter : Check.shown(x, s).toCharArray()) {
            h = hash(h, letter);
        }
        h = hash(h, x.outputs(s, 0), x.outputs(s, 27), x.outputs(s, 63), x.accepted(s), x.spread(s), x.rounds(s));
        h = hash(h, x.diagramSize(s), x.leaves(s), x.diagramDepth(s), x.rows(s));
        for (int r = 0; r < x.rows(s); r++) {
            h = hash(h, x.match(s, r, 0), x.match(s, r, 1), x.match(s, r, 2));
            for (int i = 0; i < x.action(s, r, -1); i++) {
                h = hash(h, x.action(s, r, i));
            }
        }
        return h;
    }

    private static long hashOfPairs(PolicyCompiler x, long start) {
        long h = start;
        for (int a = 0; a < 4; a++) {
            for (int b = a + 1; b < 4; b++) {
                h = hash(h, x.compare(a, b), x.witness(a, b));
            }
        }
        return h;
    }

    private static void dueDigest(PolicyCompiler x, long textLength, long saved) {
        long due = hash(hashOfCounters(x, 2729), textLength);
        for (int s = 0; s < 4; s++) {
            due = hashOfSlot(x, s, due);
        }
        due = hash(hashOfPairs(x, due), saved);
        Check.due("digest()", x.digest(), due);
        Check.due("digest() again", x.digest(), due);
    }

    private static void digest() {
        Walk.promise(28, "digest", "long digest()");
        Walk.next("Returns a hash of the state.");
        PolicyCompiler x = new PolicyCompiler();
        long fresh = x.digest();
        Check.due("digest() of another new object", new PolicyCompiler().digest(), fresh);
        x.append('0');
        Check.that("digest() with a text", x.digest() != fresh);
        x.clearText();
        Check.due("digest() of the same state", x.digest(), fresh);
        Walk.next("Start with h = 2729 and, for each of the following values v, set h = 31 * h + v: the counters of "
                + "the codes -2, -3, -4, -5, -6; the length of the text; for each slot its size, the bytes of its "
                + "printed form, the sets outputs() for the packets 0, 27 and 63, accepted(), spread(), rounds(), "
                + "diagramSize(), leaves(), diagramDepth(), rows() and, for each row, its match for the fields 0, 1 "
                + "and 2 and its actions in ascending order; for each two different slots a less than b (by a, then "
                + "by b) compare() and witness(); the number of saved states.");
        dueDigest(new PolicyCompiler(), 0, 0);
        dueDigest(Check.holding("x=1.y:2", "!x=2", "x:1+1"), 5, 3);
        dueDigest(Check.holding("0", "1*", "[x=0?y:1|z:2]", "(x=0.x:1+x=1.x:2)*"), 18, 4);
        dueDigest(Check.holding("x=3.y=3.z=3.x:0.y:0.z:0", "y=0.z=0.x:3.y:3.z:3", "x=0.y=0.z=0"), 11, 3);
        PolicyCompiler y = Check.holding("1" + "*".repeat(59), "x=3.y=0.z=2", "y=3.(x:0+x:1)", "x=0.y=0.z=0.x:1");
        y.undo();
        y.undo();
        Check.type(y, "1".repeat(150));
        Script.run(y, "append(49) = -5; append(-1) = -2; append(-1) = -2; modify(1, 0, 0) = -3; modify(0, 0, 0) = -4; "
                + "modify(0, 0, 0) = -4; modify(0, 0, 0) = -4; undo() = 1; undo() = 0; undo() = -6");
        dueDigest(y, 150, 0);
        Walk.next("Returns the hash, with the overflow of long arithmetic ignored.");
        // All counters, the text's length, the slots, the pairs and the number of saved states.
        BigInteger exact = plus(BigInteger.valueOf(2729), 0, 0, 0, 0, 0, 0);
        for (int s = 0; s < 4; s++) {
            exact = plus(exact, 1, '1', 1L, 1L << 27, 1L << 63, -1, 1, 0, 1, 1, 0, 1, 4, 4, 4, 124);
        }
        for (int pair = 0; pair < 6; pair++) {
            exact = plus(exact, 0, -1);
        }
        exact = plus(exact, 0);
        Check.that("more than a long holds", exact.bitLength() > 64);
        Check.due("digest()", fresh, exact.longValue());
    }

    private static BigInteger plus(BigInteger start, long... values) {
        BigInteger h = start;
        for (long v : values) {
            h = h.multiply(BigInteger.valueOf(31)).add(BigInteger.valueOf(v));
        }
        return h;
    }

    private static void notPromised() {
        Walk.free("## Not promised");
        Walk.free("How the state is held inside the object is free, as are the speed of each call, the text of "
                + "toString and the behaviour of equals and hashCode.");
        Walk.free("Use of one object from several threads at once is not promised to be safe.");
        Walk.free("Nothing is promised beyond the answers and state changes described above, and nothing about an "
                + "object after its 512th call.");
    }
}
