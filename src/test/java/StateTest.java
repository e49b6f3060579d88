/** Promises 26 to 28: undo, errorCount and digest. */
public final class StateTest {
    public static void main(String[] args) {
        promise26Undo();
        promise26FiveStates();
        promise26FiveStatesOfDifferentSlots();
        promise26EachSlot();
        promise26WhatIsNotSaved();
        promise27ErrorCount();
        promise28DigestOfANewObject();
        promise28DigestOfARun();
        promise28DigestChangesNothing();
        Check.end();
    }

    private static void promise26Undo() {
        PolicyCompiler x = new PolicyCompiler();
        Check.due("undo() of nothing", x.undo(), -6);
        Check.due("errorCount(-6)", x.errorCount(-6), 1);
        Check.parse(x, 0, "x=1");
        Check.parse(x, 0, "x=1");
        Check.due("a call that changes nothing is saved too", x.undo(), 1);
        Check.dueText("slot 0", Check.shown(x, 0), "x=1");
        Check.due("undo()", x.undo(), 0);
        Check.dueText("slot 0", Check.shown(x, 0), "1");
        Check.due("there is no redo", x.undo(), -6);
        Check.due("errorCount(-6)", x.errorCount(-6), 2);
    }

    private static void promise26FiveStates() {
        PolicyCompiler x = new PolicyCompiler();
        for (int n = 1; n <= 7; n++) {
            Check.due("modify(0, 0, 0)", x.modify(0, 0, 0), n + 1);
        }
        for (int n = 4; n >= 0; n--) {
            Check.due("undo()", x.undo(), n);
            Check.due("size(0)", x.size(0), n + 3);
        }
        Check.due("only five are saved", x.undo(), -6);
        Check.due("size(0)", x.size(0), 3);
        Check.due("modify(0, 0, 1)", x.modify(0, 0, 1), 4);
        Check.due("undo()", x.undo(), 0);
        Check.due("size(1)", x.size(1), 1);
    }

    private static void promise26FiveStatesOfDifferentSlots() {
        PolicyCompiler x = new PolicyCompiler();
        int[] targets = {3, 0, 1, 2, 3, 0, 1};
        for (int i = 0; i < targets.length; i++) {
            Check.parse(x, targets[i], "x=" + i % 4 + "*".repeat(i));
        }
        int[] sizesAfter = {3, 2, 1, 1, 1};
        for (int i = 0; i < 5; i++) {
            Check.due("undo()", x.undo(), 4 - i);
            Check.due("size", x.size(targets[6 - i]), sizesAfter[i]);
        }
        Check.dueText("slot 0", Check.shown(x, 0), "x=1*");
        Check.dueText("slot 1", Check.shown(x, 1), "1");
        Check.dueText("slot 2", Check.shown(x, 2), "1");
        Check.dueText("slot 3", Check.shown(x, 3), "x=0");
    }

    private static void promise26EachSlot() {
        PolicyCompiler x = new PolicyCompiler();
        Check.parse(x, 0, "x=1");
        Check.parse(x, 1, "y:2");
        x.combine(1, 0, 1, 2);
        x.modify(1, 0, 3);
        x.combine(0, 2, 3, 0);
        Check.dueText("slot 0", Check.shown(x, 0), "x=1.y:2+!x=1");
        Check.due("undo() of combine", x.undo(), 4);
        Check.dueText("slot 0", Check.shown(x, 0), "x=1");
        Check.due("isPredicate(0)", x.isPredicate(0), 1);
        Check.dueText("slot 3", Check.shown(x, 3), "!x=1");
        Check.due("undo() of modify", x.undo(), 3);
        Check.dueText("slot 3", Check.shown(x, 3), "1");
        Check.due("outputs(3, 16)", x.outputs(3, 16), 1L << 16);
        Check.dueText("slot 2", Check.shown(x, 2), "x=1.y:2");
        Check.due("isPredicate(2)", x.isPredicate(2), 0);
        Check.due("undo() of combine", x.undo(), 2);
        Check.dueText("slot 2", Check.shown(x, 2), "1");
        Check.due("isPredicate(2)", x.isPredicate(2), 1);
        Check.due("undo() of parse", x.undo(), 1);
        Check.dueText("slot 1", Check.shown(x, 1), "1");
        Check.due("undo() of parse", x.undo(), 0);
        Check.dueText("slot 0", Check.shown(x, 0), "1");
    }

    private static void promise26WhatIsNotSaved() {
        PolicyCompiler x = Check.holding("x=1");
        Check.due("append(300)", x.append(300), -2);
        Check.due("combine(0, 9, 0, 0)", x.combine(0, 9, 0, 0), -2);
        Check.due("modify(7, 0, 0)", x.modify(7, 0, 0), -2);
        Check.type(x, "x:");
        Check.due("parse(0)", x.parse(0), -12);
        Check.due("undo()", x.undo(), 0);
        Check.due("errorCount(-2) is not undone", x.errorCount(-2), 3);
        Check.due("the text is not undone", x.append('1'), 3);
    }

    private static void promise27ErrorCount() {
        PolicyCompiler x = Check.holding("1+".repeat(29) + "1");
        x.modify(0, 0, 1);
        for (int i = 0; i < 3; i++) {
            Check.due("a repetition is no predicate", x.modify(1, 1, 1), -3);
        }
        for (int i = 0; i < 4; i++) {
            Check.due("too large", x.modify(0, 1, 1), -4);
        }
        Check.type(x, "1".repeat(150));
        for (int i = 0; i < 5; i++) {
            Check.due("full", x.append(49), -5);
        }
        x.undo();
        x.undo();
        for (int i = 0; i < 6; i++) {
            Check.due("nothing saved", x.undo(), -6);
        }
        Check.due("NONE is not counted", x.printed(0, 1000), -1);
        Check.due("a syntax error is not counted", x.parse(0), -11);
        Check.due("errorCount(-2)", x.errorCount(-2), 0);
        Check.due("errorCount(-1)", x.errorCount(-1), -2);
        Check.due("errorCount(-7)", x.errorCount(-7), -2);
        Check.due("errorCount(0)", x.errorCount(0), -2);
        Check.due("errorCount(max)", x.errorCount(Integer.MAX_VALUE), -2);
        Check.due("errorCount(min)", x.errorCount(Integer.MIN_VALUE), -2);
        Check.due("errorCount(-2)", x.errorCount(-2), 5);
        Check.due("errorCount(-3)", x.errorCount(-3), 3);
        Check.due("errorCount(-4)", x.errorCount(-4), 4);
        Check.due("errorCount(-5)", x.errorCount(-5), 5);
        Check.due("errorCount(-6)", x.errorCount(-6), 6);
    }

    private static long hash(long start, long... values) {
        long h = start;
        for (long v : values) {
            h = 31 * h + v;
        }
        return h;
    }

    /** What a slot that holds the constant 1 adds to the digest. */
    private static long hashOfOne(long start) {
        return hash(start, 1, '1', 1L, 1L << 27, 1L << 63, -1L, 1, 0, 1, 1, 0, 1, 4, 4, 4, 124);
    }

    private static void promise28DigestOfANewObject() {
        long h = hash(2729, 0, 0, 0, 0, 0, 0);
        for (int s = 0; s < 4; s++) {
            h = hashOfOne(h);
        }
        for (int pair = 0; pair < 6; pair++) {
            h = hash(h, 0, -1);
        }
        Check.due("digest() of a new object", new PolicyCompiler().digest(), hash(h, 0));
    }

    private static void promise28DigestOfARun() {
        PolicyCompiler x = Check.holding("x=1.y:2");
        Check.parse(x, 2, "x:1+1");
        Check.parse(x, 3, "0");
        x.append(-1);
        x.append(-1);
        x.modify(1, 2, 2);
        x.undo();
        x.undo();
        x.undo();
        x.undo();
        Check.parse(x, 0, "x=1.y:2");
        Check.parse(x, 2, "x:1+1");
        Check.parse(x, 3, "0");
        Check.parse(x, 1, "x=1.x:0.y=1.y:0.z=1.z:0");
        Check.type(x, "x:1+1");
        // Packet 27 is (1, 2, 3): it keeps its values. Row 0 is that of y = 2.
        long h = hash(2729, 2, 1, 0, 0, 1, 5);
        h = hash(h, 3, 'x', '=', '1', '.', 'y', ':', '2', 0, 1L << 27, 0, 0xffff0000L, 1, 1, 5, 3, 2, 2,
                1, 2, 4, 124, 1, 4, 4, 114);
        // From packet 21 to packet 0: action 0.
        h = hash(h, 11, 'x', '=', '1', '.', 'x', ':', '0', '.', 'y', '=', '1', '.', 'y', ':', '0', '.',
                'z', '=', '1', '.', 'z', ':', '0', 0, 0, 0, 1L << 21, 1, 1, 5, 2, 3, 1, 1, 1, 1, 0);
        h = hash(h, 3, 'x', ':', '1', '+', '1', 1 | 1L << 16, 1L << 27, 1L << 63 | 1L << 31, -1L, 2, 1,
                3, 2, 1, 2, 1, 4, 4, 124, 4, 4, 4, 49, 124);
        h = hash(h, 1, '0', 0, 0, 0, 0, 0, 0, 1, 1, 0, 0);
        h = hash(h, 3, 16, 3, 0, 2, 16, 3, 0, 2, 21, 2, 0);
        Check.due("digest() of a run", x.digest(), hash(h, 4));
    }

    private static void promise28DigestChangesNothing() {
        PolicyCompiler x = Check.holding("(x=0.x:1+y:2)*");
        long h = x.digest();
        Check.due("digest() again", x.digest(), h);
        x.append(-1);
        Check.that("an error changes the digest", x.digest() != h);
        PolicyCompiler y = new PolicyCompiler();
        long fresh = y.digest();
        y.modify(0, 0, 0);
        y.undo();
        Check.due("digest() after undo()", y.digest(), fresh);
        y.append(49);
        Check.that("the length of the text counts", y.digest() != fresh);
    }
}
