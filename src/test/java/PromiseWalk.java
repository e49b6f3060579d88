/** The walk through promises 1 to 16. */
final class PromiseWalk {
    private static final String EVERYTHING =
            "(x:0+x:1+x:2+x:3).(y:0+y:1+y:2+y:3).(z:0+z:1+z:2+z:3)";
    private static final int[] NO_SLOTS = {-1, 4, 5, Integer.MIN_VALUE, Integer.MAX_VALUE};

    private PromiseWalk() {
    }

    static void walk() {
        newObject();
        append();
        clearText();
        parse();
        combine();
        modify();
        size();
        isPredicate();
        printed();
        outputs();
        accepted();
        spread();
        rounds();
        compare();
        witness();
        difference();
    }

    private static void newObject() {
        Walk.promise(1, "A new object", "PolicyCompiler()");
        Walk.next("Creates a compiler whose slots all hold the constant 1, with an empty policy text.");
        PolicyCompiler used = Check.holding("0", "x:1");
        used.size(4);
        for (int s = 0; s < 4; s++) {
            PolicyCompiler x = new PolicyCompiler();
            Check.dueText("slot " + s, Check.shown(x, s), "1");
            Check.due("outputs", x.outputs(s, s), 1L << s);
            Script.run(x, "parse(0) = -10; clearText() = 0; append(48) = 1; undo() = -6; errorCount(-2) = 0; "
                    + "errorCount(-3) = 0; errorCount(-4) = 0; errorCount(-5) = 0; errorCount(-6) = 1");
        }
    }

    private static void append() {
        Walk.promise(2, "append", "int append(int value)");
        Walk.free("---- policies");
        Walk.next("Appends a byte to the policy text.");
        PolicyCompiler x = new PolicyCompiler();
        Script.run(x, "append('x') = 1; parse(0) = -11; append('=') = 2; parse(0) = -12; append('2') = 3; "
                + "parse(0) = 1");
        Check.dueText("slot 0", Check.shown(x, 0), "x=2");
        Script.run(x, "append('*') = 4; parse(1) = 2");
        Check.dueText("slot 1", Check.shown(x, 1), "x=2*");
        Walk.next("- `value`: the byte, 0 to 127");
        Script.run(new PolicyCompiler(), "append(0) = 1; append(127) = 2; append(128) = -2; append(-1) = -2; "
                + "append(64) = 3; append(305) = -2; append(-2147483648) = -2; append(2147483647) = -2; "
                + "clearText() = 3");
        Walk.next("Returns the new length of the text;");
        PolicyCompiler y = new PolicyCompiler();
        for (int length = 1; length <= 150; length++) {
            Check.due("append", y.append('1'), length);
        }
        Script.run(y, "clearText() = 150; append(49) = 1");
        Walk.next("OUT_OF_RANGE if value is out of range;");
        Script.run(y, "append(-1) = -2; append(128) = -2; errorCount(-2) = 2; clearText() = 1");
        Walk.next("FULL if the text has 150 bytes.");
        Check.type(y, "1".repeat(149));
        Script.run(y, "append(49) = 150; append(49) = -5; append(0) = -5; append(128) = -2; errorCount(-5) = 2; "
                + "clearText() = 150; append(49) = 1; parse(0) = 1");
    }

    private static void clearText() {
        Walk.promise(3, "clearText", "int clearText()");
        Walk.next("Empties the policy text.");
        PolicyCompiler x = new PolicyCompiler();
        Script.run(x, "append('0') = 1; append('1') = 2; clearText() = 2; parse(0) = -10; append('0') = 1; "
                + "parse(0) = 1; accepted(0) = 0; undo() = 0; accepted(0) = -1");
        Walk.next("Returns the length that it had.");
        Script.run(x, "clearText() = 1; clearText() = 0");
        Check.type(x, "(".repeat(150));
        Script.run(x, "append('1') = -5; clearText() = 150; clearText() = 0; append('1') = 1; append(-1) = -2; "
                + "clearText() = 1");
    }

    private static void parse() {
        Walk.promise(4, "parse", "int parse(int slot)");
        Walk.next("Puts the policy of the text into a slot.");
        PolicyCompiler x = Check.holding("x=0", "x=1", "x=2", "x=3");
        Check.due("parse(2)", Check.parse(x, 2, "[p?q|r.s]*"), 7);
        Check.dueText("slot 2", Check.shown(x, 2), "[x=0?x=1|x=2.x=3]*");
        for (int s : new int[] {0, 1, 3}) {
            Check.dueText("slot " + s, Check.shown(x, s), "x=" + s);
        }
        Walk.next("The text stays as it is.");
        Script.run(x, "parse(0) = 13; clearText() = 10; append('1') = 1; append('+') = 2; parse(0) = -12; "
                + "append('0') = 3; parse(0) = 3; parse(4) = -2; append('*') = 4; parse(0) = 4; clearText() = 4");
        Walk.next("Undoable.");
        PolicyCompiler y = Check.holding("x=1", "x=2");
        Script.run(y, "accepted(0) = 4294901760; parse(3) = 1; undo() = 2; accepted(3) = -1; undo() = 1; "
                + "accepted(1) = -1; undo() = 0; accepted(0) = -1; undo() = -6");
        Walk.next("- `slot`: 0 to 3");
        Check.type(y, "z=0");
        for (int s = 0; s < 4; s++) {
            Check.due("parse(" + s + ")", y.parse(s), 1);
            Check.dueText("slot " + s, Check.shown(y, s), "z=0");
        }
        parseAnswers();
    }

    private static void parseAnswers() {
        Walk.next("Returns the size of the policy;");
        for (int n = 0; n < 60; n++) {
            Check.due("negations", Check.parsed("!".repeat(n) + "z=3"), n + 1);
        }
        Walk.next("OUT_OF_RANGE if slot is out of range;");
        PolicyCompiler x = Check.holding("y=1");
        for (int s : NO_SLOTS) {
            Check.due("parse(" + s + ")", x.parse(s), -2);
        }
        Script.run(x, "errorCount(-2) = 5; undo() = 0; clearText() = 3");
        Walk.next("-10 minus the syntax error position if there is a syntax error (then nothing changes, and no error "
                + "is counted);");
        PolicyCompiler y = Check.holding("x=1.y:2");
        Check.type(y, "!y:1");
        Script.run(y, "parse(0) = -11; size(0) = 3; errorCount(-2) = 0; errorCount(-3) = 0; errorCount(-4) = 0; "
                + "errorCount(-5) = 0; errorCount(-6) = 0; undo() = 0; undo() = -6; clearText() = 4; parse(0) = -10");
        for (int n = 0; n <= 150; n++) {
            Check.due("brackets that are not closed", Check.parsed("(".repeat(n)), -10 - n);
        }
        Walk.next("TOO_LARGE if the policy has a size greater than 60.");
        PolicyCompiler z = Check.holding("1+".repeat(29) + "1");
        Check.due("60 nodes", Check.parse(z, 1, "!p"), 60);
        Check.due("61 nodes", Check.parse(z, 1, "!!p"), -4);
        Check.due("61 nodes", Check.parse(z, 1, "p+1"), -4);
        Check.due("64 nodes and an error", Check.parse(z, 1, "p+p+!x:1"), -15);
        Script.run(z, "errorCount(-4) = 2; size(1) = 60; undo() = 1");
    }

    private static void combine() {
        Walk.promise(5, "combine", "int combine(int kind, int a, int b, int target)");
        Walk.next("Puts the union or the sequence of the policies of two slots into a slot.");
        PolicyCompiler x = Check.holding("x=0+x=1", "y:2");
        Script.run(x, "combine(0, 0, 1, 2) = 5; combine(1, 1, 0, 3) = 5");
        Check.dueText("union", Check.shown(x, 2), "x=0+x=1+y:2");
        Check.dueText("sequence", Check.shown(x, 3), "y:2.(x=0+x=1)");
        Check.dueText("slot 0", Check.shown(x, 0), "x=0+x=1");
        Script.run(x, "combine(1, 1, 1, 1) = 3; isPredicate(1) = 0; outputs(1, 0) = 256");
        Check.dueText("onto itself", Check.shown(x, 1), "y:2.y:2");
        Walk.next("Undoable.");
        Script.run(x, "undo() = 4; size(1) = 1; undo() = 3; size(3) = 1; undo() = 2; size(2) = 1; size(0) = 3");
        Walk.next("- `kind`: 0 for the union, 1 for the sequence");
        Script.holding("combine(0, 0, 1, 2) = 3; outputs(2, 0) = 257; outputs(2, 1) = 512; combine(1, 0, 1, 2) = 3; "
                + "outputs(2, 0) = 256; outputs(2, 1) = 0; combine(-1, 0, 1, 2) = -2; combine(2, 0, 1, 2) = -2; "
                + "outputs(2, 0) = 256", "z=0", "y:2");
        combineOperands();
        Walk.next("Returns the size of the result;");
        Script.holding("combine(0, 0, 1, 2) = 9; size(2) = 9; combine(1, 2, 2, 2) = 19; size(2) = 19", "!!!1",
                "x:1***");
        Walk.next("OUT_OF_RANGE if an argument is out of range;");
        PolicyCompiler y = Check.holding("1" + "*".repeat(59));
        for (int s : NO_SLOTS) {
            Check.due("kind", y.combine(s, 0, 0, 0), -2);
            Check.due("a", y.combine(0, s, 1, 1), -2);
            Check.due("b", y.combine(1, 1, s, 1), -2);
            Check.due("target", y.combine(0, 0, 0, s), -2);
        }
        Script.run(y, "errorCount(-2) = 20; errorCount(-4) = 0; undo() = 0; undo() = -6");
        Walk.next("TOO_LARGE if the result would be too large.");
        Script.holding("combine(0, 0, 1, 3) = 60; combine(1, 1, 0, 3) = 60; combine(0, 0, 0, 3) = -4; "
                + "combine(1, 0, 0, 3) = -4; combine(0, 3, 2, 2) = -4; combine(1, 3, 3, 3) = -4; errorCount(-4) = 4; "
                + "size(2) = 1; size(3) = 60", "!".repeat(29) + "1", "!".repeat(28) + "1");
    }

    private static void combineOperands() {
        Walk.next("- `a`: slot of the left operand");
        for (int s = 0; s < 4; s++) {
            PolicyCompiler x = Check.holding("x=0", "x=1", "x=2", "x=3");
            Check.due("combine(1, " + s + ", 0, 2)", x.combine(1, s, 0, 2), 3);
            Check.dueText("slot 2", Check.shown(x, 2), "x=" + s + ".x=0");
        }
        Walk.next("- `b`: slot of the right operand");
        for (int s = 0; s < 4; s++) {
            PolicyCompiler x = Check.holding("x=0", "x=1", "x=2", "x=3");
            Check.due("combine(0, 1, " + s + ", 2)", x.combine(0, 1, s, 2), 3);
            Check.dueText("slot 2", Check.shown(x, 2), "x=1+x=" + s);
        }
        Walk.next("- `target`: slot for the result");
        for (int s = 0; s < 4; s++) {
            PolicyCompiler x = Check.holding("x=0", "x=1", "x=2", "x=3");
            Check.due("combine(0, 1, 2, " + s + ")", x.combine(0, 1, 2, s), 3);
            for (int other = 0; other < 4; other++) {
                Check.dueText("slot " + other, Check.shown(x, other), other == s ? "x=1+x=2" : "x=" + other);
            }
        }
    }

    private static void modify() {
        Walk.promise(6, "modify", "int modify(int kind, int a, int target)");
        Walk.next("Puts the repetition or the negation of the policy of a slot into a slot.");
        PolicyCompiler x = Check.holding("x=0+x=1");
        Script.run(x, "modify(0, 0, 2) = 4; modify(1, 0, 3) = 4; modify(1, 0, 0) = 4");
        Check.dueText("repetition", Check.shown(x, 2), "(x=0+x=1)*");
        Check.dueText("negation", Check.shown(x, 3), "!(x=0+x=1)");
        Check.dueText("onto itself", Check.shown(x, 0), "!(x=0+x=1)");
        Script.run(x, "isPredicate(2) = 0; isPredicate(3) = 1; isPredicate(0) = 1");
        Walk.next("Undoable.");
        Script.run(x, "undo() = 3; size(0) = 3; undo() = 2; size(3) = 1; undo() = 1; size(2) = 1; undo() = 0; "
                + "size(0) = 1");
        Walk.next("- `kind`: 0 for the repetition, 1 for the negation");
        Script.holding("modify(0, 0, 1) = 2; outputs(1, 0) = 1; modify(1, 0, 1) = 2; outputs(1, 0) = 0; "
                + "outputs(1, 16) = 65536; modify(-1, 0, 1) = -2; modify(2, 0, 1) = -2; outputs(1, 0) = 0", "x=0");
        Walk.next("- `a`: slot of the operand");
        for (int s = 0; s < 4; s++) {
            PolicyCompiler y = Check.holding("x=0", "x=1", "x=2", "x=3");
            Check.due("modify(1, " + s + ", 2)", y.modify(1, s, 2), 2);
            Check.dueText("slot 2", Check.shown(y, 2), "!x=" + s);
        }
        Walk.next("- `target`: slot for the result");
        for (int s = 0; s < 4; s++) {
            PolicyCompiler y = Check.holding("x=0", "x=1", "x=2", "x=3");
            Check.due("modify(0, 1, " + s + ")", y.modify(0, 1, s), 2);
            for (int other = 0; other < 4; other++) {
                Check.dueText("slot " + other, Check.shown(y, other), other == s ? "x=1*" : "x=" + other);
            }
        }
        modifyAnswers();
    }

    private static void modifyAnswers() {
        Walk.next("Returns the size of the result;");
        PolicyCompiler x = new PolicyCompiler();
        for (int size = 2; size <= 60; size++) {
            Check.due("repetition", x.modify(0, 0, 0), size);
            Check.due("negation", x.modify(1, 1, 1), size);
        }
        Walk.next("OUT_OF_RANGE if an argument is out of range;");
        PolicyCompiler y = Check.holding("x:1");
        for (int s : NO_SLOTS) {
            Check.due("kind", y.modify(s, 0, 0), -2);
            Check.due("a", y.modify(0, s, 0), -2);
            Check.due("target", y.modify(1, 0, s), -2);
        }
        Script.run(y, "errorCount(-2) = 15; errorCount(-3) = 0; undo() = 0; undo() = -6");
        Walk.next("NOT_A_PREDICATE if kind is 1 and the operand is not a predicate;");
        Script.holding("modify(1, 0, 0) = -3; modify(1, 1, 0) = -3; modify(1, 2, 0) = 5; modify(0, 1, 1) = 4; "
                + "errorCount(-3) = 2", "x:1", "x=1+y:1", "[1?0|1]");
        Walk.next("TOO_LARGE if the result would be too large.");
        Script.holding("modify(0, 0, 1) = 60; modify(1, 0, 2) = 60; modify(0, 1, 1) = -4; modify(0, 2, 1) = -4; "
                + "modify(1, 2, 2) = -4; modify(1, 1, 3) = -3; errorCount(-4) = 3; errorCount(-3) = 1; size(1) = 60; "
                + "size(2) = 60; size(3) = 1", "!".repeat(58) + "1");
    }

    private static void size() {
        Walk.promise(7, "size", "int size(int slot)");
        Walk.next("Returns the size of the policy in a slot.");
        PolicyCompiler x = Check.holding("x=1", "!x=1", "x=1.x:2", "[x=1?0|1]");
        Walk.next("- `slot`: 0 to 3");
        Script.run(x, "size(0) = 1; size(1) = 2; size(2) = 3; size(3) = 4; combine(1, 3, 2, 0) = 8; size(0) = 8; "
                + "undo() = 4; size(0) = 1");
        Walk.next("Returns the size, 1 to 60;");
        for (int n = 0; n < 60; n++) {
            Check.due("size", Check.holding("x:1" + "*".repeat(n)).size(0), n + 1);
        }
        Walk.next("OUT_OF_RANGE if slot is out of range.");
        for (int s : NO_SLOTS) {
            Check.due("size(" + s + ")", x.size(s), -2);
        }
        Script.run(x, "errorCount(-2) = 5");
    }

    private static void isPredicate() {
        Walk.promise(8, "isPredicate", "int isPredicate(int slot)");
        Walk.next("Tells whether the policy in a slot is a predicate.");
        Script.holding("isPredicate(0) = 1; combine(0, 0, 1, 2) = 4; isPredicate(2) = 0; combine(1, 0, 0, 2) = 5; "
                + "isPredicate(2) = 1; modify(0, 0, 2) = 3; isPredicate(2) = 0; modify(1, 0, 2) = 3; "
                + "isPredicate(2) = 1; undo() = 4; isPredicate(2) = 0", "!x=1", "x:1");
        Walk.next("- `slot`: 0 to 3");
        PolicyCompiler x = Check.holding("x:1", "1", "y=1*", "[1?1|0]");
        Walk.next("Returns 1 if it is, 0 if it is not;");
        Script.run(x, "isPredicate(0) = 0; isPredicate(1) = 1; isPredicate(2) = 0; isPredicate(3) = 1");
        Walk.next("OUT_OF_RANGE if slot is out of range.");
        for (int s : NO_SLOTS) {
            Check.due("isPredicate(" + s + ")", x.isPredicate(s), -2);
        }
        Script.run(x, "errorCount(-2) = 5");
    }

    private static void printed() {
        Walk.promise(9, "printed", "int printed(int slot, int index)");
        Walk.next("Returns a byte of the printed form of the policy in a slot.");
        Script.holding("printed(0, 0) = 120; printed(0, 1) = 61; printed(0, 2) = 49; printed(1, 0) = 33; "
                + "printed(1, 1) = 48; printed(2, 0) = 49; printed(2, 1) = 42; printed(3, 3) = 63", "((x=1))",
                "(!0)", "1*", "[!1?y:2|0]");
        Walk.next("- `slot`: 0 to 3");
        PolicyCompiler x = Check.holding("x=0", "x=1.y:1", "x=2*", "!x=3");
        Script.run(x, "printed(0, 2) = 48; printed(1, 2) = 49; printed(2, 2) = 50; printed(3, 3) = 51");
        Walk.next("- `index`: index of the byte, from 0, or -1 for the length of the printed form");
        Script.run(x, "printed(0, -1) = 3; printed(1, -1) = 7; printed(2, -1) = 4; printed(3, -1) = 4; "
                + "printed(3, 0) = 33");
        Walk.next("Returns the byte, or the length if index is -1;");
        // 19 choices with two tests each.
        String choices = "[x=1?x=1|";
        PolicyCompiler y = Check.holding(choices.repeat(10) + "(!x=1)*" + "]".repeat(10));
        Check.due("parse", Check.parse(y, 1, choices.repeat(9) + "p" + "]".repeat(9)), 60);
        Check.dueText("printed", Check.shown(y, 1), choices.repeat(19) + "(!x=1)*" + "]".repeat(19));
        Walk.next("NONE if index is not less than the length;");
        Script.run(y, "printed(1, -1) = 197; printed(1, 196) = 93; printed(1, 197) = -1; printed(1, 2147483647) = -1; "
                + "printed(2, 1) = -1; errorCount(-2) = 0");
        Walk.next("OUT_OF_RANGE if slot is out of range or index is less than -1.");
        for (int s : NO_SLOTS) {
            Check.due("printed(" + s + ", 0)", x.printed(s, 0), -2);
            Check.due("printed(" + s + ", -1)", x.printed(s, -1), -2);
        }
        Script.run(x, "printed(0, -2) = -2; printed(3, -2147483648) = -2; errorCount(-2) = 12");
    }

    private static void outputs() {
        Walk.promise(10, "outputs", "long outputs(int slot, int packet)");
        Walk.free("---- evaluation");
        Walk.next("Returns the set of packets into which a policy turns a packet.");
        PolicyCompiler x = Check.holding("x=1.y:2", "(x=0.x:1+x=1.x:2)*", "!x=1", "[z=0?z:1|z:0+1]");
        Walk.next("- `slot`: 0 to 3");
        Script.run(x, "outputs(0, 16) = 16777216; outputs(1, 0) = 4295032833; outputs(2, 0) = 1; outputs(3, 1) = 3; "
                + "outputs(0, 0) = 0; outputs(1, 16) = 4295032832; outputs(2, 16) = 0; outputs(3, 0) = 2");
        Walk.next("- `packet`: 0 to 63");
        Script.run(x, "outputs(2, 63) = -9223372036854775808; outputs(2, 62) = 4611686018427387904; "
                + "outputs(0, 31) = 134217728; outputs(3, 63) = -8070450532247928832");
        Walk.next("Returns the set of packets (it can equal an error code);");
        // All packets, and all but packet 0, 1, 2, and so on.
        PolicyCompiler y = Check.holding(EVERYTHING);
        String[] tests = {"1", "!(x=0.y=0.z=0)", "!(x=0.y=0.z=1)", "!(x=0.y=0.(z=0+z=1))", "!(x=0.y=0.z=2)",
            "!(x=0.y=0.(z=0+z=2))"};
        for (int i = 0; i < tests.length; i++) {
            Check.that("parse", Check.parse(y, 1, "p." + tests[i]) > 0);
            Check.due("outputs", y.outputs(1, 40), -1 - i);
        }
        Script.run(y, "errorCount(-2) = 0; errorCount(-3) = 0; errorCount(-4) = 0; errorCount(-5) = 0; "
                + "errorCount(-6) = 0");
        Walk.next("OUT_OF_RANGE if an argument is out of range.");
        for (int s : NO_SLOTS) {
            Check.due("outputs(" + s + ", 0)", x.outputs(s, 0), -2);
        }
        Script.run(x, "outputs(0, -1) = -2; outputs(0, 64) = -2; outputs(3, -2147483648) = -2; "
                + "outputs(3, 2147483647) = -2; errorCount(-2) = 9");
    }

    private static void accepted() {
        Walk.promise(11, "accepted", "long accepted(int slot)");
        Walk.next("Returns the set of packets which a policy does not turn into the empty set.");
        PolicyCompiler x = Check.holding("x=1.y:2", "x:1", "0", "x:1.z=3");
        Walk.next("- `slot`: 0 to 3");
        Script.run(x, "accepted(0) = 4294901760; accepted(1) = -1; accepted(2) = 0; "
                + "accepted(3) = -8608480567731124088");
        Walk.next("Returns the set of packets (it can equal an error code);");
        Script.holding("accepted(0) = -2; accepted(1) = -3; accepted(2) = -5; accepted(3) = -1; errorCount(-2) = 0; "
                + "errorCount(-3) = 0; errorCount(-5) = 0", "!(x=0.y=0.z=0)", "!(x=0.y=0.z=1).x:1", "!(x=0.y=0.z=2)");
        Walk.next("OUT_OF_RANGE if slot is out of range.");
        for (int s : NO_SLOTS) {
            Check.due("accepted(" + s + ")", x.accepted(s), -2);
        }
        Script.run(x, "errorCount(-2) = 5");
    }

    private static void spread() {
        Walk.promise(12, "spread", "int spread(int slot)");
        Walk.next("Returns the greatest number of packets into which a policy turns one packet.");
        PolicyCompiler x = Check.holding("x=1.y:2", "0", "x:0+x:1+z=3.y:2.x:1", "x=3.y=3.z=3." + EVERYTHING);
        Walk.next("- `slot`: 0 to 3");
        Script.run(x, "spread(0) = 1; spread(1) = 0; spread(2) = 3; spread(3) = 64");
        Walk.next("Returns the greatest number, 0 to 64;");
        // Only the first packet, or only the last one, has so many.
        Script.holding("spread(0) = 64; spread(1) = 64; spread(2) = 2", "x=0.y=0.z=0." + EVERYTHING,
                "x=3.y=3.z=3." + EVERYTHING, "x=0.y=0.z=0.(x:1+1)");
        for (int n = 1; n <= 64; n++) {
            PolicyCompiler y = Check.holding(EVERYTHING);
            // The first n packets, as those below n.
            int z = (n - 1) % 4;
            String below = "x=" + (n - 1) / 16 + ".(y=" + (n - 1) / 4 % 4 + "." + upTo("z", z) + "+" + upTo("y",
                    (n - 1) / 4 % 4 - 1)
                    + ")+" + upTo("x", (n - 1) / 16 - 1);
            Check.that("parse", Check.parse(y, 1, below) > 0);
            Check.that("parse", Check.parse(y, 2, "p.q") > 0);
            Check.due("spread over the first packets", y.spread(2), n);
        }
        Walk.next("OUT_OF_RANGE if slot is out of range.");
        for (int s : NO_SLOTS) {
            Check.due("spread(" + s + ")", x.spread(s), -2);
        }
        Script.run(x, "errorCount(-2) = 5");
    }

    /** The test whether a field has a value up to this one. */
    private static String upTo(String field, int value) {
        StringBuilder test = new StringBuilder("(0");
        for (int v = 0; v <= value; v++) {
            test.append('+').append(field).append('=').append(v);
        }
        return test.append(')').toString();
    }

    private static void rounds() {
        Walk.promise(13, "rounds", "int rounds(int slot)");
        Walk.next("Returns how many rounds the repetition of a policy needs: the least n such that each packet that "
                + "can be reached from a packet in any number of steps can be reached from it in at most n steps.");
        Script.holding("rounds(0) = 0; rounds(1) = 1; rounds(2) = 2; rounds(3) = 3", "x=1", "x:1+x:2+x:3",
                "x=0.x:1+x=1.x:2+x=2.x:3+x=0.x:3", "x=0.x:1+x=1.x:2+x=2.x:3+x=3.x:0");
        Script.holding("rounds(0) = 1; rounds(1) = 2; rounds(2) = 3; rounds(3) = 0", "(x=0.x:1+x=1.x:2+x=2.x:3)*",
                "x:1+y:1", "x:1+y:1+z:1", "0*");
        Walk.next("- `slot`: 0 to 3");
        PolicyCompiler x = Check.holding("0", "x:1", "x:1+y:2", "(x:1+y:2)*");
        Script.run(x, "rounds(0) = 0; rounds(1) = 1; rounds(2) = 2; rounds(3) = 1");
        Walk.next("Returns the number of rounds, 0 to 63;");
        // Only from the first packet, or only from the last one, it takes so many.
        Script.holding("rounds(0) = 1; rounds(1) = 1; rounds(2) = 2", "x=0.y=0.z=0.z:1", "x=3.y=3.z=3.x:0",
                "x=0.y=0.z=0.z:1+x=0.y=0.z=1.z:2");
        PolicyCompiler y = Check.holding("[x=0?x:1|[x=1?x:2|[x=2?x:3|x:0]]]", "[y=0?y:1|[y=1?y:2|y:3]]",
                "[z=0?z:1|[z=1?z:2|z:3]]");
        // From each packet to the next one, and from the last to the first: 63 steps to the one before.
        Check.that("parse", Check.parse(y, 3, "[z=3?z:0.[y=3?y:0.p|q]|r]") > 0);
        Script.run(y, "rounds(3) = 63; rounds(0) = 3; rounds(1) = 3; rounds(2) = 3");
        y.modify(0, 3, 3);
        Script.run(y, "rounds(3) = 1");
        Walk.next("OUT_OF_RANGE if slot is out of range.");
        for (int s : NO_SLOTS) {
            Check.due("rounds(" + s + ")", x.rounds(s), -2);
        }
        Script.run(x, "errorCount(-2) = 5");
    }

    private static void compare() {
        Walk.promise(14, "compare", "int compare(int a, int b)");
        Walk.free("---- comparison");
        Walk.next("Compares the policies of two slots.");
        PolicyCompiler x = Check.holding("x=1.y:2", "y:2.x=1", "y:2", "x=1.y:3");
        Walk.next("- `a`: a slot");
        Script.run(x, "compare(0, 2) = 1; compare(1, 2) = 1; compare(2, 2) = 0; compare(3, 2) = 3");
        Walk.next("- `b`: a slot");
        Script.run(x, "compare(2, 0) = 2; compare(2, 1) = 2; compare(2, 2) = 0; compare(2, 3) = 3");
        Walk.next("Returns 0 if both turn each packet into equal sets;");
        Script.run(x, "compare(0, 1) = 0; compare(1, 0) = 0; compare(3, 3) = 0");
        Script.holding("compare(0, 1) = 0; compare(2, 3) = 0; compare(1, 2) = 1", "0", "x=1.x=2", "1", "x=0+!x=0");
        Walk.next("otherwise 1 if for each packet the set of a is a subset of that of b, 2 if for each packet the set "
                + "of b is a subset of that of a, 3 if neither holds;");
        Script.holding("compare(0, 1) = 1; compare(1, 0) = 2; compare(0, 2) = 1; compare(2, 3) = 1; "
                + "compare(3, 0) = 2; compare(1, 2) = 3; compare(2, 1) = 3", "x=1", "x=1+x=3", "x=1*.!x=3", "1");
        // Less for one packet and more for another one.
        Script.holding("compare(0, 1) = 3; compare(1, 0) = 3; compare(2, 3) = 3", "x=0.y=0.z=0", "x=3.y=3.z=3",
                "x=0.x:1+x=1", "x=1.x:0+x=1");
        Walk.next("OUT_OF_RANGE if an argument is out of range.");
        for (int s : NO_SLOTS) {
            Check.due("compare(" + s + ", 0)", x.compare(s, 0), -2);
            Check.due("compare(0, " + s + ")", x.compare(0, s), -2);
            Check.due("compare(" + s + ", " + s + ")", x.compare(s, s), -2);
        }
        Script.run(x, "errorCount(-2) = 15");
    }

    private static void witness() {
        Walk.promise(15, "witness", "int witness(int a, int b)");
        Walk.next("Returns the least packet that two policies turn into different sets.");
        PolicyCompiler x = Check.holding("x=1.y:2", "y:2", "x=1.y:3", "y:2.(x=0+x=1+x=2+z=0)");
        Walk.next("- `a`: a slot");
        Script.run(x, "witness(0, 1) = 0; witness(1, 1) = -1; witness(2, 1) = 0; witness(3, 1) = 49");
        Walk.next("- `b`: a slot");
        Script.run(x, "witness(0, 0) = -1; witness(0, 1) = 0; witness(0, 2) = 16; witness(0, 3) = 0");
        Walk.next("Returns the packet;");
        for (int p = 0; p < 64; p++) {
            String packet = "x=" + p / 16 + ".y=" + p / 4 % 4 + ".z=" + p % 4;
            Script.holding("witness(0, 1) = " + p + "; witness(1, 0) = " + p + "; witness(2, 3) = " + p, "1",
                    "!(" + packet + ")", "0", packet);
        }
        Walk.next("NONE if there is none;");
        Script.holding("witness(0, 1) = -1; witness(1, 0) = -1; witness(2, 2) = -1; witness(2, 3) = 0", "x=0*", "1",
                "0");
        Walk.next("OUT_OF_RANGE if an argument is out of range.");
        for (int s : NO_SLOTS) {
            Check.due("witness(" + s + ", 0)", x.witness(s, 0), -2);
            Check.due("witness(0, " + s + ")", x.witness(0, s), -2);
            Check.due("witness(" + s + ", " + s + ")", x.witness(s, s), -2);
        }
        Script.run(x, "errorCount(-2) = 15");
    }

    private static void difference() {
        Walk.promise(16, "difference", "int difference(int a, int b)");
        Walk.next("Returns the least packet that is in only one of the two sets into which two policies turn their "
                + "witness.");
        // Packet 0 is the witness; 0 and 16 are in both sets, 32 and 48 in one of them each.
        PolicyCompiler x = Check.holding("x:0+x:1+x:2", "x:0+x:1+x:3", "x=1.x:3", "x=2");
        Walk.next("- `a`: a slot");
        Script.run(x, "difference(0, 1) = 32; difference(1, 1) = -1; difference(2, 1) = 0; difference(3, 1) = 0");
        Walk.next("- `b`: a slot");
        Script.run(x, "difference(2, 0) = 0; difference(2, 1) = 0; difference(2, 2) = -1; difference(2, 3) = 48");
        Walk.next("Returns the packet;");
        for (int q = 0; q < 64; q++) {
            String assigned = "x:" + q / 16 + ".y:" + q / 4 % 4 + ".z:" + q % 4;
            PolicyCompiler y = Check.holding("x=2.y=1.z=3." + assigned, "0", "1", "1+x=2.y=1.z=3." + assigned);
            Check.due("difference", y.difference(0, 1), q);
            Check.due("difference", y.difference(1, 0), q);
            Check.due("difference", y.difference(2, 3), q == 39 ? -1 : q);
        }
        Walk.next("NONE if there is no witness;");
        Script.holding("difference(0, 1) = -1; difference(1, 0) = -1; difference(2, 2) = -1; difference(2, 3) = 0",
                "x=0*", "1", "0");
        Walk.next("OUT_OF_RANGE if an argument is out of range.");
        for (int s : NO_SLOTS) {
            Check.due("difference(" + s + ", 0)", x.difference(s, 0), -2);
            Check.due("difference(0, " + s + ")", x.difference(0, s), -2);
            Check.due("difference(" + s + ", " + s + ")", x.difference(s, s), -2);
        }
        Script.run(x, "errorCount(-2) = 15");
    }
}
