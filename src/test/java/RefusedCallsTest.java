import java.util.ArrayList;
import java.util.List;

/** Each method's refused calls: they change nothing but the counter of the code that they answer. */
public final class RefusedCallsTest {
    private static final int MIN = Integer.MIN_VALUE;
    private static final int MAX = Integer.MAX_VALUE;
    private static final int[] NO_SLOTS = {-1, 4, 5, -4, 64, 256, MIN, MIN + 1, MAX, MAX - 3};
    private static final int[] NO_KINDS = {-1, 2, 3, -2, 256, MIN, MAX};
    private static final int[] NO_PACKETS = {-1, 64, 65, -64, 128, 1 << 26, MIN, MAX};
    private static final int[] NO_ROWS = {-1, 2, 3, 63, 64, 65, 1 << 30, MIN, MAX};
    private static final int[] NO_FIELDS = {-1, 3, 4, -3, 64, MIN, MAX};
    private static final int[] BELOW_INDEX = {-2, -3, -64, MIN, MIN + 1};
    private static final String TEXT = "x=1.!y=2";

    /** A call that is to be refused. */
    private interface Call {
        long on(PolicyCompiler x);
    }

    public static void main(String[] args) {
        oneSlot();
        twoSlots();
        append();
        parse();
        combine();
        modify();
        printed();
        outputsAndHit();
        match();
        action();
        hits();
        undo();
        errorCount();
        answersOfNone();
        order();
        Check.end();
    }

    /** Slot 0 has a table of two rows, slot 1 a predicate, slot 2 the greatest size, slot 3 no row. */
    private static PolicyCompiler ready(String text) {
        PolicyCompiler x = Check.holding("x=1.y:2", "[x=0?y=1|z=1]", "1" + "*".repeat(59), "0");
        x.size(4);
        x.size(4);
        x.modify(1, 0, 0);
        Check.type(x, text);
        return x;
    }

    /** All that a compiler answers, but for the counters; it is used up by this. */
    private static List<String> answers(PolicyCompiler x) {
        List<String> answers = new ArrayList<>();
        for (int s = 0; s < 4; s++) {
            answers.add(Check.shown(x, s) + " " + x.size(s) + " " + x.isPredicate(s) + " " + x.outputs(s, 20) + " "
                    + x.accepted(s) + " " + x.spread(s) + " " + x.rounds(s) + " " + x.diagramSize(s) + " "
                    + x.rows(s) + " " + x.hit(s, 20) + " " + x.witness(s, 1));
        }
        answers.add("parse " + x.parse(3) + " " + x.accepted(3));
        answers.add("clearText " + x.clearText());
        for (int i = 0; i < 6; i++) {
            StringBuilder slots = new StringBuilder();
            for (int s = 0; s < 4; s++) {
                slots.append(x.size(s)).append(' ').append(x.isPredicate(s)).append(' ').append(x.accepted(s)).append(';');
            }
            answers.add(slots + " undo " + x.undo());
        }
        return answers;
    }

    /** Makes the call on one compiler and not on another one that is like it. */
    private static void due(String call, String text, int code, Call refused) {
        PolicyCompiler x = ready(text);
        PolicyCompiler twin = ready(text);
        Check.due(call, refused.on(x), code);
        for (int c = -6; c <= -2; c++) {
            Check.due("errorCount(" + c + ") after " + call, x.errorCount(c), twin.errorCount(c) + (c == code ? 1 : 0));
        }
        Check.due(call + " again", refused.on(x), code);
        for (int c = -6; c <= -2; c++) {
            Check.due("errorCount(" + c + ") after two " + call, x.errorCount(c), twin.errorCount(c) + (c == code ? 2 : 0));
        }
        Check.dueText("all answers after " + call, answers(x).toString(), answers(twin).toString());
    }

    private static void due(String call, int code, Call refused) {
        due(call, TEXT, code, refused);
    }

    private static void sentence() {
        Check.sentence("A call that returns an error code changes nothing except that it increments the counter of "
                + "that code.");
    }

    private static void oneSlot() {
        sentence();
        for (int s : NO_SLOTS) {
            due("size(" + s + ")", -2, x -> x.size(s));
            due("isPredicate(" + s + ")", -2, x -> x.isPredicate(s));
            due("accepted(" + s + ")", -2, x -> x.accepted(s));
            due("spread(" + s + ")", -2, x -> x.spread(s));
            due("rounds(" + s + ")", -2, x -> x.rounds(s));
            due("diagramSize(" + s + ")", -2, x -> x.diagramSize(s));
            due("leaves(" + s + ")", -2, x -> x.leaves(s));
            due("diagramDepth(" + s + ")", -2, x -> x.diagramDepth(s));
            due("rows(" + s + ")", -2, x -> x.rows(s));
        }
    }

    private static void twoSlots(int a, int b) {
        String slots = "(" + a + ", " + b + ")";
        due("compare" + slots, -2, x -> x.compare(a, b));
        due("witness" + slots, -2, x -> x.witness(a, b));
        due("difference" + slots, -2, x -> x.difference(a, b));
        due("sharedNodes" + slots, -2, x -> x.sharedNodes(a, b));
    }

    private static void twoSlots() {
        sentence();
        for (int s : NO_SLOTS) {
            twoSlots(s, 0);
            twoSlots(0, s);
            twoSlots(s, s);
        }
    }

    private static void append() {
        sentence();
        for (int value : new int[] {-1, 128, 129, 255, 256, 304, -128, MIN, MIN + 48, MAX}) {
            due("append(" + value + ")", -2, x -> x.append(value));
            due("append(" + value + ") to a full text", "1".repeat(150), -2, x -> x.append(value));
        }
        for (int value : new int[] {0, 48, 127}) {
            due("append(" + value + ") to a full text", "1".repeat(150), -5, x -> x.append(value));
        }
    }

    private static void parse() {
        sentence();
        for (int s : NO_SLOTS) {
            due("parse(" + s + ")", -2, x -> x.parse(s));
            due("parse(" + s + ") with a syntax error", "x", -2, x -> x.parse(s));
            due("parse(" + s + ") of a policy too large", "r+r", -2, x -> x.parse(s));
        }
        for (int s = 0; s < 4; s++) {
            int slot = s;
            due("parse(" + s + ") of a policy too large", "r*", -4, x -> x.parse(slot));
            due("parse(" + s + ") of a policy too large", "r+q", -4, x -> x.parse(slot));
            due("parse(" + s + ") of 61 nodes", "1" + "*".repeat(60), -4, x -> x.parse(slot));
            due("parse(" + s + ") of nothing", "", -10, x -> x.parse(slot));
            due("parse(" + s + ") of no predicate", "!p", -11, x -> x.parse(slot));
            due("parse(" + s + ") of an early end", "(1", -12, x -> x.parse(slot));
            due("parse(" + s + ") of a wrong byte", "r+)", -12, x -> x.parse(slot));
        }
    }

    private static void combine(int kind, int a, int b, int target, int code) {
        due("combine(" + kind + ", " + a + ", " + b + ", " + target + ")", code, x -> x.combine(kind, a, b, target));
    }

    private static void combine() {
        sentence();
        for (int kind : NO_KINDS) {
            combine(kind, 0, 1, 3, -2);
            combine(kind, 2, 2, 3, -2);
        }
        for (int s : NO_SLOTS) {
            combine(0, s, 1, 3, -2);
            combine(1, 0, s, 3, -2);
            combine(0, 0, 1, s, -2);
            combine(1, 2, 2, s, -2);
            combine(s, s, s, s, -2);
        }
        for (int s = 0; s < 4; s++) {
            combine(0, 2, s, s, -4);
            combine(1, s, 2, s, -4);
        }
    }

    private static void modify(int kind, int a, int target, int code) {
        due("modify(" + kind + ", " + a + ", " + target + ")", code, x -> x.modify(kind, a, target));
    }

    private static void modify() {
        sentence();
        for (int kind : NO_KINDS) {
            modify(kind, 1, 3, -2);
            modify(kind, 2, 3, -2);
        }
        for (int s : NO_SLOTS) {
            modify(0, s, 3, -2);
            modify(1, s, 3, -2);
            modify(0, 1, s, -2);
            modify(1, 0, s, -2);
            modify(1, 2, s, -2);
            modify(s, s, s, -2);
        }
        for (int s = 0; s < 4; s++) {
            modify(1, 0, s, -3);
            modify(1, 2, s, -3);
            modify(0, 2, s, -4);
        }
    }

    private static void printed() {
        sentence();
        for (int s : NO_SLOTS) {
            for (int index : new int[] {-2, -1, 0, 500, MIN, MAX}) {
                due("printed(" + s + ", " + index + ")", -2, x -> x.printed(s, index));
            }
        }
        for (int index : BELOW_INDEX) {
            due("printed(0, " + index + ")", -2, x -> x.printed(0, index));
            due("printed(3, " + index + ")", -2, x -> x.printed(3, index));
        }
    }

    private static void outputsAndHit() {
        sentence();
        for (int p : NO_PACKETS) {
            due("outputs(0, " + p + ")", -2, x -> x.outputs(0, p));
            due("outputs(4, " + p + ")", -2, x -> x.outputs(4, p));
            due("hit(0, " + p + ")", -2, x -> x.hit(0, p));
            due("hit(3, " + p + ")", -2, x -> x.hit(3, p));
            due("hit(-1, " + p + ")", -2, x -> x.hit(-1, p));
        }
        for (int s : NO_SLOTS) {
            due("outputs(" + s + ", 0)", -2, x -> x.outputs(s, 0));
            due("outputs(" + s + ", 63)", -2, x -> x.outputs(s, 63));
            due("hit(" + s + ", 0)", -2, x -> x.hit(s, 0));
            due("hit(" + s + ", 63)", -2, x -> x.hit(s, 63));
        }
    }

    private static void match() {
        sentence();
        for (int row : NO_ROWS) {
            due("match(0, " + row + ", 0)", -2, x -> x.match(0, row, 0));
            due("match(0, " + row + ", 3)", -2, x -> x.match(0, row, 3));
        }
        for (int field : NO_FIELDS) {
            due("match(0, 1, " + field + ")", -2, x -> x.match(0, 1, field));
        }
        for (int s : NO_SLOTS) {
            due("match(" + s + ", 0, 0)", -2, x -> x.match(s, 0, 0));
            due("match(" + s + ", -1, -1)", -2, x -> x.match(s, -1, -1));
        }
        due("match(3, 0, 0)", -2, x -> x.match(3, 0, 0));
    }

    private static void action() {
        sentence();
        for (int row : NO_ROWS) {
            for (int index : new int[] {-2, -1, 0, 124, MAX}) {
                due("action(0, " + row + ", " + index + ")", -2, x -> x.action(0, row, index));
            }
        }
        for (int index : BELOW_INDEX) {
            due("action(0, 1, " + index + ")", -2, x -> x.action(0, 1, index));
        }
        for (int s : NO_SLOTS) {
            for (int index : new int[] {-2, -1, 0, MAX}) {
                due("action(" + s + ", 0, " + index + ")", -2, x -> x.action(s, 0, index));
            }
        }
        due("action(3, 0, -1)", -2, x -> x.action(3, 0, -1));
        due("action(3, 0, 0)", -2, x -> x.action(3, 0, 0));
    }

    private static void hits() {
        sentence();
        for (int row : NO_ROWS) {
            due("hits(0, " + row + ")", -2, x -> x.hits(0, row));
        }
        for (int s : NO_SLOTS) {
            due("hits(" + s + ", 0)", -2, x -> x.hits(s, 0));
            due("hits(" + s + ", -1)", -2, x -> x.hits(s, -1));
        }
        due("hits(3, 0)", -2, x -> x.hits(3, 0));
    }

    private static void undo() {
        sentence();
        PolicyCompiler x = new PolicyCompiler();
        Check.type(x, "x=1");
        x.modify(0, 0, 1);
        x.undo();
        Check.due("undo() of none", x.undo(), -6);
        Check.due("undo() of none again", x.undo(), -6);
        int[] counters = {0, 0, 0, 0, 2};
        for (int code = -2; code >= -6; code--) {
            Check.due("errorCount(" + code + ")", x.errorCount(code), counters[-2 - code]);
        }
        for (int s = 0; s < 4; s++) {
            Check.dueText("slot " + s, Check.shown(x, s), "1");
        }
        Check.due("parse(2)", x.parse(2), 1);
        Check.due("clearText()", x.clearText(), 3);
        Check.due("undo()", x.undo(), 0);
    }

    private static void errorCount() {
        sentence();
        for (int code : new int[] {-7, -1, 0, 1, 2, 6, -10, -64, MIN, MIN + 2, MAX}) {
            due("errorCount(" + code + ")", -2, x -> x.errorCount(code));
        }
    }

    /** NONE is no error code that is counted. */
    private static void answersOfNone() {
        Check.sentence("`code`: an error code, -6 to -2");
        due("printed(0, 7)", -1, x -> x.printed(0, 7));
        due("printed(0, max)", -1, x -> x.printed(0, MAX));
        due("witness(1, 1)", -1, x -> x.witness(1, 1));
        due("difference(1, 1)", -1, x -> x.difference(1, 1));
        due("action(0, 0, 1)", -1, x -> x.action(0, 0, 1));
        due("action(0, 1, max)", -1, x -> x.action(0, 1, MAX));
        due("hit(3, 0)", -1, x -> x.hit(3, 0));
        due("hit(0, 63)", -1, x -> x.hit(0, 63));
    }

    private static void order() {
        Check.sentence("The checks of a method are made in the order in which its error codes are listed.");
        due("append: OUT_OF_RANGE, FULL", "1".repeat(150), -2, x -> x.append(128));
        due("parse: OUT_OF_RANGE, syntax error", "r+r+", -2, x -> x.parse(4));
        due("parse: OUT_OF_RANGE, TOO_LARGE", "r+r", -2, x -> x.parse(4));
        due("parse: syntax error, TOO_LARGE", "r+r+", -14, x -> x.parse(0));
        due("parse: syntax error, TOO_LARGE", "!(r+r)", -11, x -> x.parse(0));
        due("parse: syntax error, TOO_LARGE", "[r+r?1|1]", -11, x -> x.parse(0));
        due("combine: OUT_OF_RANGE, TOO_LARGE", -2, x -> x.combine(2, 2, 2, 2));
        due("combine: OUT_OF_RANGE, TOO_LARGE", -2, x -> x.combine(0, 2, 2, 4));
        due("modify: OUT_OF_RANGE, NOT_A_PREDICATE, TOO_LARGE", -2, x -> x.modify(1, 2, 4));
        due("modify: OUT_OF_RANGE, NOT_A_PREDICATE, TOO_LARGE", -2, x -> x.modify(2, 2, 0));
        due("modify: OUT_OF_RANGE, NOT_A_PREDICATE", -2, x -> x.modify(1, 0, -1));
        due("modify: NOT_A_PREDICATE, TOO_LARGE", -3, x -> x.modify(1, 2, 0));
    }
}
