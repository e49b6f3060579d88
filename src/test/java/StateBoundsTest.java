import java.math.BigInteger;
import java.util.ArrayList;
import java.util.List;

/** The edges of the document's sentences on undo, and of promises 26 to 28. */
public final class StateBoundsTest {
    private static final int MIN = Integer.MIN_VALUE;
    private static final int MAX = Integer.MAX_VALUE;
    private static final String EVERYTHING =
            "(x:0+x:1+x:2+x:3).(y:0+y:1+y:2+y:3).(z:0+z:1+z:2+z:3)";

    public static void main(String[] args) {
        nothingSaved();
        eachUndoableCall();
        callsThatAreNotUndoable();
        callsThatChangeNothing();
        refusedCallsAreNotSaved();
        fiveStatesAtMost();
        fiveStatesAfterUndo();
        oldestIsDroppedFirst();
        savedStateHasAllSlots();
        savedStateHasNoText();
        savedStateHasNoCounters();
        mostRecentFirst();
        codesOfErrorCount();
        everyCodeHasItsCounter();
        undoIsCountedAndCountersAreNotUndone();
        digestOfStates();
        digestOfTextLengths();
        digestOfSavedStates();
        digestOfCounters();
        digestOverflows();
        Check.end();
    }

    private static void nothingSaved() {
        Check.sentence("Returns the number of saved states that remain; NOTHING_SAVED if there is none.");
        PolicyCompiler x = new PolicyCompiler();
        Check.due("undo() of a new object", x.undo(), -6);
        Check.due("undo() again", x.undo(), -6);
        Check.due("errorCount(-6)", x.errorCount(-6), 2);
        x.modify(0, 0, 0);
        Check.due("undo() of one", x.undo(), 0);
        Check.due("undo() of none", x.undo(), -6);
        Check.due("errorCount(-6)", x.errorCount(-6), 3);
        Check.dueText("slot 0", Check.shown(x, 0), "1");
        for (int n = 1; n <= 5; n++) {
            x.modify(0, 0, 0);
        }
        for (int n = 4; n >= 0; n--) {
            Check.due("undo() of " + (n + 1), x.undo(), n);
        }
        Check.due("undo() of none", x.undo(), -6);
        Check.due("errorCount(-6)", x.errorCount(-6), 4);
    }

    private static void eachUndoableCall() {
        Check.sentence("Each successful call of a method whose description says \"undoable\" saves the state from "
                + "before the call, even if the call changes nothing;");
        for (int slot = 0; slot < 4; slot++) {
            PolicyCompiler x = new PolicyCompiler();
            Check.due("parse", Check.parse(x, slot, "x:1"), 1);
            Check.due("modify", x.modify(0, slot, slot), 2);
            Check.due("combine", x.combine(1, slot, slot, slot), 5);
            Check.due("undo() of combine", x.undo(), 2);
            Check.dueText("slot " + slot, Check.shown(x, slot), "x:1*");
            Check.due("undo() of modify", x.undo(), 1);
            Check.dueText("slot " + slot, Check.shown(x, slot), "x:1");
            Check.due("isPredicate(" + slot + ")", x.isPredicate(slot), 0);
            Check.due("undo() of parse", x.undo(), 0);
            Check.dueText("slot " + slot, Check.shown(x, slot), "1");
            Check.due("isPredicate(" + slot + ")", x.isPredicate(slot), 1);
        }
    }

    private static void callsThatAreNotUndoable() {
        Check.sentence("Each successful call of a method whose description says \"undoable\" saves the state from "
                + "before the call,");
        PolicyCompiler x = Check.holding("x=1");
        x.append('1');
        x.clearText();
        x.append('1');
        x.size(0);
        x.isPredicate(0);
        x.printed(0, 0);
        x.outputs(0, 0);
        x.accepted(0);
        x.spread(0);
        x.rounds(0);
        x.compare(0, 1);
        x.witness(0, 1);
        x.difference(0, 1);
        x.diagramSize(0);
        x.leaves(0);
        x.diagramDepth(0);
        x.sharedNodes(0, 1);
        x.rows(0);
        x.match(0, 0, 0);
        x.action(0, 0, 0);
        x.hit(0, 0);
        x.hits(0, 0);
        x.errorCount(-2);
        x.digest();
        Check.due("undo() of the only one", x.undo(), 0);
        Check.due("undo() cannot be undone", x.undo(), -6);
        Check.dueText("slot 0", Check.shown(x, 0), "1");
    }

    private static void callsThatChangeNothing() {
        Check.sentence("even if the call changes nothing;");
        PolicyCompiler x = new PolicyCompiler();
        Check.due("parse of 1 into a slot that holds 1", Check.parse(x, 2, "1"), 1);
        Check.due("parse of a slot's letter into the slot", Check.parse(x, 2, "r"), 1);
        Check.due("the same once more", x.parse(2), 1);
        for (int n = 2; n >= 0; n--) {
            Check.due("undo()", x.undo(), n);
            Check.dueText("slot 2", Check.shown(x, 2), "1");
        }
        Check.due("undo()", x.undo(), -6);
        // Calls that change nothing push out the others, too.
        Check.parse(x, 0, "x=1");
        Check.type(x, "p");
        for (int i = 0; i < 5; i++) {
            Check.due("parse(0)", x.parse(0), 1);
        }
        for (int n = 4; n >= 0; n--) {
            Check.due("undo()", x.undo(), n);
        }
        Check.due("undo()", x.undo(), -6);
        Check.dueText("slot 0", Check.shown(x, 0), "x=1");
    }

    private static void refusedCallsAreNotSaved() {
        Check.sentence("Each successful call of a method whose description says \"undoable\" saves the state from "
                + "before the call,");
        PolicyCompiler x = Check.holding("1" + "*".repeat(59), "y:1");
        Check.due("too large", x.combine(0, 0, 1, 2), -4);
        Check.due("too large", x.modify(0, 0, 2), -4);
        Check.due("no predicate", x.modify(1, 1, 2), -3);
        Check.due("out of range", x.modify(0, 0, 4), -2);
        Check.due("out of range", x.combine(2, 0, 0, 0), -2);
        Check.due("out of range", x.parse(4), -2);
        Check.due("a syntax error", Check.parse(x, 2, "y:"), -12);
        Check.due("too large", Check.parse(x, 2, "p+q"), -4);
        Check.due("undo()", x.undo(), 1);
        Check.dueText("slot 1", Check.shown(x, 1), "1");
        Check.due("undo()", x.undo(), 0);
        Check.due("size(0)", x.size(0), 1);
        Check.due("undo()", x.undo(), -6);
    }

    private static void fiveStatesAtMost() {
        Check.sentence("at most 5 states are saved, and the oldest is dropped first.");
        for (int calls = 1; calls <= 12; calls++) {
            PolicyCompiler x = new PolicyCompiler();
            for (int i = 1; i <= calls; i++) {
                Check.due("modify(0, 0, 0)", x.modify(0, 0, 0), i + 1);
            }
            int saved = Math.min(calls, 5);
            for (int i = 1; i <= saved; i++) {
                Check.due("undo() " + i + " of " + calls, x.undo(), saved - i);
                Check.due("size(0)", x.size(0), calls + 1 - i);
            }
            Check.due("one undo() too many", x.undo(), -6);
            Check.due("size(0)", x.size(0), calls + 1 - saved);
        }
    }

    private static void fiveStatesAfterUndo() {
        Check.sentence("at most 5 states are saved, and the oldest is dropped first.");
        for (int undone = 1; undone <= 5; undone++) {
            PolicyCompiler x = new PolicyCompiler();
            for (int i = 1; i <= 7; i++) {
                x.modify(0, 0, 0);
            }
            for (int i = 1; i <= undone; i++) {
                Check.due("undo()", x.undo(), 5 - i);
            }
            // As many states as were taken away fit in again, and one more drops the oldest.
            for (int i = 1; i <= undone + 1; i++) {
                x.modify(1, 1, 1);
            }
            for (int n = 4; n >= 0; n--) {
                Check.due("undo()", x.undo(), n);
            }
            Check.due("undo()", x.undo(), -6);
            Check.due("size(1)", x.size(1), undone + 1 > 5 ? 2 : 1);
            Check.due("size(0)", x.size(0), undone == 5 ? 3 : 4);
        }
    }

    private static void oldestIsDroppedFirst() {
        Check.sentence("at most 5 states are saved, and the oldest is dropped first.");
        PolicyCompiler x = new PolicyCompiler();
        int[] slots = {0, 1, 2, 3, 0, 1};
        for (int i = 0; i < slots.length; i++) {
            Check.parse(x, slots[i], "x=" + i % 4 + "*".repeat(i));
        }
        for (int n = 4; n >= 0; n--) {
            Check.due("undo()", x.undo(), n);
        }
        Check.dueText("the first change stays", Check.shown(x, 0), "x=0");
        for (int s = 1; s < 4; s++) {
            Check.dueText("the others do not", Check.shown(x, s), "1");
        }
    }

    private static void savedStateHasAllSlots() {
        Check.sentence("The saved state contains the slots,");
        PolicyCompiler x = Check.holding("x=0", "y:1", "z=2.x:3", "0");
        x.combine(0, 0, 1, 2);
        x.combine(1, 2, 2, 3);
        x.modify(1, 0, 0);
        Check.due("undo()", x.undo(), 4);
        Check.due("undo()", x.undo(), 3);
        Check.due("undo()", x.undo(), 2);
        String[] forms = {"x=0", "y:1", "z=2.x:3", "0"};
        int[] predicates = {1, 0, 0, 1};
        long[] accepted = {65535, -1, 0x4444444444444444L, 0};
        int[] rows = {1, 2, 3, 0};
        for (int s = 0; s < 4; s++) {
            Check.dueText("slot " + s, Check.shown(x, s), forms[s]);
            Check.due("isPredicate(" + s + ")", x.isPredicate(s), predicates[s]);
            Check.due("accepted(" + s + ")", x.accepted(s), accepted[s]);
            Check.due("rows(" + s + ")", x.rows(s), rows[s]);
            Check.due("compare with itself", x.compare(s, s), 0);
        }
        // What undo() restores can be used as any other policy.
        Check.due("modify(1, 0, 3)", x.modify(1, 0, 3), 2);
        Check.due("modify(1, 1, 3)", x.modify(1, 1, 3), -3);
        Check.due("parse of [p?q|r]", Check.parse(x, 3, "[p?q|r]"), 6);
        Check.dueText("slot 3", Check.shown(x, 3), "[x=0?y:1|z=2.x:3]");
    }

    private static void savedStateHasNoText() {
        Check.sentence("but not the policy text and the error counters.");
        PolicyCompiler x = Check.holding("x=1");
        Check.type(x, "y:2+");
        Check.due("undo()", x.undo(), 0);
        Check.due("the text goes on", x.append('0'), 5);
        Check.due("parse(0)", x.parse(0), 3);
        Check.dueText("slot 0", Check.shown(x, 0), "y:2+0");
        x.clearText();
        Check.due("undo()", x.undo(), 0);
        Check.due("an emptied text stays empty", x.clearText(), 0);
    }

    private static void savedStateHasNoCounters() {
        Check.sentence("but not the policy text and the error counters.");
        PolicyCompiler x = Check.holding("x:1");
        x.size(4);
        x.modify(1, 0, 0);
        Check.type(x, "1".repeat(150));
        x.append('1');
        Check.due("undo()", x.undo(), 0);
        Check.due("errorCount(-2)", x.errorCount(-2), 1);
        Check.due("errorCount(-3)", x.errorCount(-3), 1);
        Check.due("errorCount(-5)", x.errorCount(-5), 1);
    }

    private static void mostRecentFirst() {
        Check.sentence("Restores the most recently saved state and removes it from the saved states.");
        PolicyCompiler x = new PolicyCompiler();
        Check.parse(x, 0, "x=0");
        Check.parse(x, 0, "x=1");
        Check.parse(x, 1, "x=2");
        Check.due("undo()", x.undo(), 2);
        Check.dueText("slots", Check.shown(x, 0) + " " + Check.shown(x, 1), "x=1 1");
        Check.parse(x, 2, "x=3");
        Check.due("undo()", x.undo(), 2);
        Check.dueText("slots", Check.shown(x, 0) + " " + Check.shown(x, 2), "x=1 1");
        Check.due("undo()", x.undo(), 1);
        Check.dueText("slot 0", Check.shown(x, 0), "x=0");
        Check.due("undo()", x.undo(), 0);
        Check.dueText("slot 0", Check.shown(x, 0), "1");
    }

    private static void codesOfErrorCount() {
        Check.sentence("`code`: an error code, -6 to -2");
        PolicyCompiler x = new PolicyCompiler();
        for (int code = -6; code <= -2; code++) {
            Check.due("errorCount(" + code + ")", x.errorCount(code), 0);
        }
        Check.sentence("OUT_OF_RANGE if code is out of range (this increments the counter of OUT_OF_RANGE).");
        int errors = 0;
        for (int code : new int[] {-7, -1, -8, 0, 1, 2, 6, -10, -160, MIN, MIN + 1, MAX, MAX - 1}) {
            Check.due("errorCount(" + code + ")", x.errorCount(code), -2);
            errors++;
            Check.due("errorCount(-2)", x.errorCount(-2), errors);
        }
        for (int code = -6; code <= -3; code++) {
            Check.due("errorCount(" + code + ")", x.errorCount(code), 0);
        }
    }

    /** A compiler that answers each error code but NOTHING_SAVED when error() asks for it. */
    private static PolicyCompiler readyForErrors() {
        PolicyCompiler x = Check.holding("x:1", "1" + "*".repeat(59));
        Check.type(x, "1".repeat(150));
        return x;
    }

    private static int error(PolicyCompiler x, int code) {
        switch (code) {
            case -2: return x.size(4);
            case -3: return x.modify(1, 0, 0);
            case -4: return x.modify(0, 1, 1);
            case -5: return x.append(49);
            default: return x.undo();
        }
    }

    private static void everyCodeHasItsCounter() {
        Check.sentence("Returns how often an error code has been returned.");
        for (int code = -6; code <= -2; code++) {
            PolicyCompiler x = code == -6 ? new PolicyCompiler() : readyForErrors();
            for (int times = 1; times <= 3; times++) {
                Check.due("an error", error(x, code), code);
                for (int other = -6; other <= -2; other++) {
                    Check.due("errorCount(" + other + ")", x.errorCount(other), other == code ? times : 0);
                }
            }
        }
    }

    private static void undoIsCountedAndCountersAreNotUndone() {
        Check.sentence("Returns how often an error code has been returned.");
        PolicyCompiler x = Check.holding("1" + "*".repeat(59));
        Check.due("combine", x.combine(0, 0, 1, 1), -4);
        Check.due("modify", x.modify(0, 0, 1), -4);
        Check.due("parse", Check.parse(x, 0, "p*"), -4);
        Check.due("modify", x.modify(1, 0, 1), -3);
        Check.due("undo()", x.undo(), 0);
        Check.due("undo()", x.undo(), -6);
        Check.due("undo()", x.undo(), -6);
        Check.due("errorCount(-4)", x.errorCount(-4), 3);
        Check.due("errorCount(-3)", x.errorCount(-3), 1);
        Check.due("errorCount(-6)", x.errorCount(-6), 2);
        Check.due("errorCount(-2)", x.errorCount(-2), 0);
    }

    /** The values of the digest in the document's order; the length of the text cannot be asked for. */
    private static List<Long> values(PolicyCompiler x, long textLength, long saved) {
        List<Long> values = new ArrayList<>();
        for (int code = -2; code >= -6; code--) {
            values.add((long) x.errorCount(code));
        }
        values.add(textLength);
        for (int s = 0; s < 4; s++) {
            values.add((long) x.size(s));
            for (char letter : Check.shown(x, s).toCharArray()) {
                values.add((long) letter);
            }
            values.add(x.outputs(s, 0));
            values.add(x.outputs(s, 27));
            values.add(x.outputs(s, 63));
            values.add(x.accepted(s));
            values.add((long) x.spread(s));
            values.add((long) x.rounds(s));
            values.add((long) x.diagramSize(s));
            values.add((long) x.leaves(s));
            values.add((long) x.diagramDepth(s));
            values.add((long) x.rows(s));
            for (int row = 0; row < x.rows(s); row++) {
                addRow(values, x, s, row);
            }
        }
        int[][] pairs = {{0, 1}, {0, 2}, {0, 3}, {1, 2}, {1, 3}, {2, 3}};
        for (int[] pair : pairs) {
            values.add((long) x.compare(pair[0], pair[1]));
            values.add((long) x.witness(pair[0], pair[1]));
        }
        values.add(saved);
        return values;
    }

    private static void addRow(List<Long> values, PolicyCompiler x, int slot, int row) {
        for (int f = 0; f < 3; f++) {
            values.add((long) x.match(slot, row, f));
        }
        int actions = x.action(slot, row, -1);
        for (int i = 0; i < actions; i++) {
            values.add((long) x.action(slot, row, i));
        }
    }

    private static BigInteger exactHash(List<Long> values) {
        BigInteger h = BigInteger.valueOf(2729);
        for (long v : values) {
            h = h.multiply(BigInteger.valueOf(31)).add(BigInteger.valueOf(v));
        }
        return h;
    }

    private static void dueDigest(PolicyCompiler x, long textLength, long saved) {
        long want = exactHash(values(x, textLength, saved)).longValue();
        Check.due("digest()", x.digest(), want);
        Check.due("digest() again", x.digest(), want);
    }

    private static void digestOfStates() {
        Check.sentence("Start with h = 2729 and, for each of the following values v, set h = 31 * h + v: the "
                + "counters of the codes -2, -3, -4, -5, -6; the length of the text; for each slot its size, the "
                + "bytes of its printed form, the sets outputs() for the packets 0, 27 and 63, accepted(), spread(), "
                + "rounds(), diagramSize(), leaves(), diagramDepth(), rows() and, for each row, its match for the "
                + "fields 0, 1 and 2 and its actions in ascending order; for each two different slots a less than b "
                + "(by a, then by b) compare() and witness(); the number of saved states.");
        dueDigest(new PolicyCompiler(), 0, 0);
        String[][] states = {{"0"}, {"x=1"}, {"1", "0"}, {"1", "1", "1", "x:2"}, {"x=1.y:2", "y:2", "z=3*", "!x=1"},
            {"[x=1?y:2+z:0|x:0]", "(x=0.x:1+y=3)*", "x=1.y=1.z=3", "x=3"}, {"x=1", "x=2", "x=1+x=2", "x=3.x:0"},
            {"y=1+z=2", "z=2+y=1", "(y:0+y:1).(z:2+z:3)", "x:0.y:0.z:0"}};
        for (String[] state : states) {
            dueDigest(Check.holding(state), state[state.length - 1].length(), state.length);
        }
        // The greatest table, set and text.
        PolicyCompiler x = Check.holding("x=1.y=2.z=3." + EVERYTHING);
        dueDigest(x, 12 + EVERYTHING.length(), 1);
    }

    private static void digestOfTextLengths() {
        Check.sentence("the length of the text;");
        for (int length : new int[] {0, 1, 149, 150}) {
            PolicyCompiler x = new PolicyCompiler();
            for (int i = 0; i < length; i++) {
                x.append(i % 128);
            }
            dueDigest(x, length, 0);
        }
    }

    private static void digestOfSavedStates() {
        Check.sentence("the number of saved states.");
        PolicyCompiler x = new PolicyCompiler();
        long first = x.digest();
        Check.type(x, "1");
        long typed = x.digest();
        for (int saved = 1; saved <= 7; saved++) {
            x.parse(0);
            Check.due("digest() with saved states", x.digest() - typed, Math.min(saved, 5));
        }
        for (int saved = 4; saved >= 0; saved--) {
            x.undo();
            Check.due("digest() after undo()", x.digest() - typed, saved);
        }
        x.clearText();
        Check.due("digest() as at first", x.digest(), first);
    }

    private static void digestOfCounters() {
        Check.sentence("the counters of the codes -2, -3, -4, -5, -6;");
        for (int code = -6; code <= -2; code++) {
            for (int times = 0; times <= 2; times++) {
                PolicyCompiler x = code == -6 ? new PolicyCompiler() : readyForErrors();
                for (int i = 0; i < times; i++) {
                    Check.due("an error", error(x, code), code);
                }
                dueDigest(x, code == -6 ? 0 : 150, code == -6 ? 0 : 2);
            }
        }
        PolicyCompiler x = readyForErrors();
        for (int code = -2; code >= -5; code--) {
            for (int times = 0; times < 7 + code; times++) {
                Check.due("an error", error(x, code), code);
            }
        }
        dueDigest(x, 150, 2);
    }

    private static void digestOverflows() {
        Check.sentence("Returns the hash, with the overflow of long arithmetic ignored.");
        PolicyCompiler x = new PolicyCompiler();
        BigInteger exact = exactHash(values(x, 0, 0));
        Check.that("the exact hash is no long", exact.bitLength() > 63);
        Check.due("digest()", x.digest(), exact.longValue());
        boolean below = false;
        boolean above = false;
        for (String text : new String[] {"0", "x=0", "x=1", "x=2", "x=3", "y:0", "y:1", "y:2"}) {
            PolicyCompiler y = Check.holding(text);
            below |= y.digest() < 0;
            above |= y.digest() > 0;
            dueDigest(y, text.length(), 1);
        }
        Check.that("hashes on both sides of 0", below && above);
    }
}
