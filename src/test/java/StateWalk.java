import java.util.regex.Matcher;
import java.util.regex.Pattern;

/** The walk through "Undo", "Errors", the examples and the constants. */
final class StateWalk {
    private StateWalk() {
    }

    static void walk() {
        eachUndoableCall();
        otherCallsSaveNothing();
        fiveStates();
        savedState();
        refusedCalls();
        orderOfChecks();
        examples();
        constants();
    }

    private static void eachUndoableCall() {
        Walk.free("Undo.");
        Walk.next("Each successful call of a method whose description says \"undoable\" saves the state from before "
                + "the call, even if the call changes nothing;");
        PolicyCompiler x = new PolicyCompiler();
        Check.type(x, "x=1");
        Script.run(x, "parse(0) = 1; modify(1, 0, 1) = 2; combine(0, 0, 1, 2) = 4; parse(0) = 1; undo() = 3");
        Check.dueText("slot 0", Check.shown(x, 0), "x=1");
        Script.run(x, "undo() = 2; size(2) = 1; undo() = 1; size(1) = 1; isPredicate(1) = 1; undo() = 0");
        Check.dueText("slot 0", Check.shown(x, 0), "1");
        Script.run(x, "undo() = -6");
        // The constant 1 in place of the constant 1: such a call is saved too.
        Check.type(x, "1");
        Script.run(x, "parse(3) = 1; parse(3) = 1; undo() = 1; undo() = 0; undo() = -6");
    }

    private static void otherCallsSaveNothing() {
        PolicyCompiler x = new PolicyCompiler();
        Check.type(x, "x:1");
        Script.run(x, "clearText() = 3; append(48) = 1; size(0) = 1; isPredicate(0) = 1; printed(0, 0) = 49; "
                + "outputs(0, 1) = 2; accepted(0) = -1; spread(0) = 1; rounds(0) = 0; compare(0, 1) = 0; "
                + "witness(0, 1) = -1; difference(0, 1) = -1; diagramSize(0) = 1; leaves(0) = 1; diagramDepth(0) = 0; "
                + "sharedNodes(0, 1) = 1; rows(0) = 1; match(0, 0, 0) = 4; action(0, 0, 0) = 124; hit(0, 0) = 0; "
                + "hits(0, 0) = 64; errorCount(-6) = 0; undo() = -6; errorCount(-6) = 1");
        x.digest();
        // Nor do refused calls, and calls that end with a syntax error.
        Script.run(x, "parse(4) = -2; combine(2, 0, 0, 0) = -2; modify(0, 0, -1) = -2; append(41) = 2; "
                + "parse(0) = -11; undo() = -6; parse(0) = -11; modify(0, 0, 0) = 2; modify(1, 0, 0) = -3; "
                + "undo() = 0; undo() = -6");
    }

    private static void fiveStates() {
        Walk.next("at most 5 states are saved, and the oldest is dropped first.");
        for (int calls = 0; calls <= 9; calls++) {
            PolicyCompiler x = new PolicyCompiler();
            for (int n = 1; n <= calls; n++) {
                Check.due("modify", x.modify(0, 0, 0), n + 1);
            }
            int saved = Math.min(calls, 5);
            for (int n = 1; n <= saved; n++) {
                Check.due("undo() " + n + " behind " + calls + " calls", x.undo(), saved - n);
                Check.due("size(0)", x.size(0), calls - n + 1);
            }
            Check.due("no undo() more", x.undo(), -6);
            Check.due("size(0)", x.size(0), calls - saved + 1);
        }
    }

    private static void savedState() {
        Walk.next("The saved state contains the slots, but not the policy text and the error counters.");
        PolicyCompiler x = Check.holding("x=0", "x=1", "x=2", "x=3");
        Check.due("parse", Check.parse(x, 2, "y:1"), 1);
        Check.type(x, "z=3");
        Script.run(x, "append(128) = -2; modify(1, 2, 0) = -3; undo() = 4; errorCount(-2) = 1; errorCount(-3) = 1; "
                + "append(42) = 4; parse(3) = 2; clearText() = 4; undo() = 4; clearText() = 0");
        for (int s = 0; s < 4; s++) {
            Check.dueText("slot " + s, Check.shown(x, s), "x=" + s);
        }
    }

    private static void refusedCalls() {
        Walk.free("Errors.");
        Walk.next("A call that returns an error code changes nothing except that it increments the counter of that "
                + "code.");
        PolicyCompiler x = Check.holding("1+".repeat(29) + "1", "x:1");
        Check.type(x, "p+p");
        Script.run(x, "parse(0) = -4; combine(0, 0, 0, 1) = -4; modify(1, 1, 1) = -3; size(4) = -2; "
                + "errorCount(-1) = -2; parse(-1) = -2; append(-1) = -2; errorCount(-2) = 4; errorCount(-3) = 1; "
                + "errorCount(-4) = 2; errorCount(-5) = 0; errorCount(-6) = 0");
        Check.dueText("slot 0", Check.shown(x, 0), "1+".repeat(29) + "1");
        Check.dueText("slot 1", Check.shown(x, 1), "x:1");
        Script.run(x, "size(2) = 1; size(3) = 1; undo() = 1; undo() = 0; undo() = -6; undo() = -6; "
                + "errorCount(-6) = 2; errorCount(-2) = 4; parse(2) = 3; undo() = 0");
        Check.type(x, "1".repeat(150));
        Script.run(x, "append(49) = -5; append(49) = -5; errorCount(-5) = 2; parse(0) = -11; undo() = -6; "
                + "clearText() = 150");
        // A syntax error is no error code that is counted, and NONE is none either.
        Script.run(x, "errorCount(-2) = 4; errorCount(-3) = 1; errorCount(-4) = 2; errorCount(-6) = 3; "
                + "printed(0, 1) = -1; witness(0, 0) = -1; errorCount(-2) = 4");
    }

    private static void orderOfChecks() {
        Walk.next("The checks of a method are made in the order in which its error codes are listed.");
        PolicyCompiler x = Check.holding("1" + "*".repeat(59));
        Check.type(x, "p+p" + "!".repeat(147));
        Script.run(x, "append(128) = -2; append(127) = -5; parse(4) = -2; parse(0) = -13; combine(0, 0, 0, 4) = -2; "
                + "combine(0, 0, 0, 0) = -4; modify(1, 0, 4) = -2; modify(1, 0, 0) = -3; modify(0, 0, 0) = -4; "
                + "printed(4, 1000) = -2; printed(0, 1000) = -1; action(4, 0, 1000) = -2; action(0, 0, 1000) = -1; "
                + "errorCount(-2) = 6; errorCount(-3) = 1; errorCount(-4) = 2; errorCount(-5) = 1");
        Check.type(x, "p+p+");
        Script.run(x, "parse(4) = -2; parse(0) = -14; append(48) = 5; parse(0) = -4");
    }

    /** The examples are read out of the document, so that each call in them is made. */
    private static void examples() {
        String[] titles = {"A test and an assignment", "A double negation is the same policy", "A repetition",
            "Two assignments compared", "Errors"};
        int[] calls = {14, 13, 15, 13, 12};
        Walk.next("Examples: Each of them begins with a new object; the results are given behind the calls.");
        Pattern call = Pattern.compile("\\w+\\([^()]*\\) = -?\\d+");
        for (int e = 0; e < titles.length; e++) {
            String example = Walk.between((e + 1) + ". " + titles[e] + ":", ".");
            Check.due("calls of example " + (e + 1), example.split(";").length, calls[e]);
            Script.run(new PolicyCompiler(), example);
            Matcher made = call.matcher(example);
            int found = 0;
            while (made.find()) {
                found++;
            }
            Check.due("calls of example " + (e + 1), found, calls[e]);
        }
    }

    private static void constants() {
        Walk.free("The constants:");
        Walk.next("- `OUT_OF_RANGE = -2`: An argument is not in its range.");
        Check.due("OUT_OF_RANGE", PolicyCompiler.OUT_OF_RANGE, -2);
        Script.run(new PolicyCompiler(), "size(4) = -2; errorCount(PolicyCompiler.OUT_OF_RANGE) = 1");
        Walk.next("- `NOT_A_PREDICATE = -3`: The policy is not a predicate.");
        Check.due("NOT_A_PREDICATE", PolicyCompiler.NOT_A_PREDICATE, -3);
        Script.holding("modify(1, 0, 0) = -3; errorCount(PolicyCompiler.NOT_A_PREDICATE) = 1", "x:0");
        Walk.next("- `TOO_LARGE = -4`: The policy would have a size greater than 60.");
        Check.due("TOO_LARGE", PolicyCompiler.TOO_LARGE, -4);
        Script.holding("modify(0, 0, 0) = -4; errorCount(PolicyCompiler.TOO_LARGE) = 1", "!".repeat(59) + "1");
        Walk.next("- `FULL = -5`: There is no more room.");
        Check.due("FULL", PolicyCompiler.FULL, -5);
        PolicyCompiler x = new PolicyCompiler();
        Check.type(x, "1".repeat(150));
        Script.run(x, "append(49) = -5; errorCount(PolicyCompiler.FULL) = 1");
        Walk.next("- `NOTHING_SAVED = -6`: There is no saved state.");
        Check.due("NOTHING_SAVED", PolicyCompiler.NOTHING_SAVED, -6);
        Script.run(new PolicyCompiler(), "undo() = -6; errorCount(PolicyCompiler.NOTHING_SAVED) = 1");
        Walk.next("- `NONE = -1`: There is no such thing.");
        Check.due("NONE", PolicyCompiler.NONE, -1);
        Script.run(new PolicyCompiler(), "witness(0, 0) = -1; errorCount(PolicyCompiler.NONE) = -2; "
                + "errorCount(-2) = 1");
        Walk.free("The constructor and the methods follow, a promise each: the signature, then what it does.");
    }
}
