/** Promises 1 to 9: a new object, the policy text, parsing, building, size, predicates, printing. */
public final class PoliciesTest {
    public static void main(String[] args) {
        promise1NewObject();
        promise2Append();
        promise3ClearText();
        promise4ParseSizes();
        promise4ParseGrouping();
        promise4ParseLetters();
        promise4ParseNesting();
        promise4SyntaxErrors();
        promise4PredicateErrors();
        promise4TooLarge();
        promise4ErrorsChangeNothing();
        promise4ParseAgainAndAgain();
        promise5Combine();
        promise5CombineErrors();
        promise6Modify();
        promise6ModifyErrors();
        promise7Size();
        promise8IsPredicate();
        promise9Printed();
        promise9PrintedParentheses();
        Check.end();
    }

    private static void promise1NewObject() {
        PolicyCompiler x = new PolicyCompiler();
        for (int s = 0; s < 4; s++) {
            Check.due("new: size", x.size(s), 1);
            Check.dueText("new: printed", Check.shown(x, s), "1");
            Check.due("new: outputs", x.outputs(s, 5), 32);
        }
        for (int code = -6; code <= -2; code++) {
            Check.due("new: errorCount", x.errorCount(code), 0);
        }
        Check.due("new: parse of the empty text", x.parse(0), -10);
        Check.due("new: clearText()", x.clearText(), 0);
        Check.due("new: undo()", x.undo(), -6);
    }

    private static void promise2Append() {
        PolicyCompiler x = new PolicyCompiler();
        Check.due("append(-1)", x.append(-1), -2);
        Check.due("append(128)", x.append(128), -2);
        Check.due("append(min)", x.append(Integer.MIN_VALUE), -2);
        Check.due("append(max)", x.append(Integer.MAX_VALUE), -2);
        Check.due("append(0)", x.append(0), 1);
        Check.due("append(127)", x.append(127), 2);
        for (int length = 3; length <= 150; length++) {
            Check.due("append(49)", x.append(49), length);
        }
        Check.due("append at 150", x.append(49), -5);
        Check.due("a bad byte at 150", x.append(128), -2);
        Check.due("errorCount(-2)", x.errorCount(-2), 5);
        Check.due("errorCount(-5)", x.errorCount(-5), 1);
        Check.due("clearText()", x.clearText(), 150);
        Check.due("append behind it", x.append(49), 1);
        Check.due("parse(0)", x.parse(0), 1);
    }

    private static void promise3ClearText() {
        PolicyCompiler x = new PolicyCompiler();
        Check.due("clearText()", x.clearText(), 0);
        Check.type(x, "x=1");
        Check.due("parse(0)", x.parse(0), 1);
        Check.due("clearText()", x.clearText(), 3);
        Check.due("clearText() again", x.clearText(), 0);
        Check.due("parse(0) of nothing", x.parse(0), -10);
        Check.type(x, "y:2");
        Check.due("undo() leaves the text", x.undo(), 0);
        Check.due("clearText() after undo()", x.clearText(), 3);
    }

    private static void dueParse(String text, int want) {
        Check.due("parse of " + text, Check.parse(new PolicyCompiler(), 0, text), want);
    }

    private static void promise4ParseSizes() {
        dueParse("0", 1);
        dueParse("1", 1);
        dueParse("x=0", 1);
        dueParse("z:3", 1);
        dueParse("x=1+y=2", 3);
        dueParse("x=1.y:2", 3);
        dueParse("x:1*", 2);
        dueParse("x:1***", 4);
        dueParse("!x=1", 2);
        dueParse("!!!0", 4);
        dueParse("(((x:1)))", 1);
        dueParse("[x=1?y:2|z:3]", 4);
        dueParse("[x=1?y:2|z:3]*", 5);
        dueParse("[[x=1?0|1]?[1?y:2|0]|z:3+1]", 12);
        dueParse("q", 1);
        PolicyCompiler x = new PolicyCompiler();
        for (int s = 0; s < 4; s++) {
            Check.due("parse(" + s + ")", Check.parse(x, s, "x=" + s), 1);
        }
        for (int s = 0; s < 4; s++) {
            Check.dueText("slot " + s, Check.shown(x, s), "x=" + s);
        }
        Check.due("the text stays", x.parse(0), 1);
        Check.dueText("slot 0", Check.shown(x, 0), "x=3");
        Check.due("parse is undoable", x.undo(), 4);
        Check.dueText("slot 0", Check.shown(x, 0), "x=0");
        Check.due("clearText()", x.clearText(), 3);
    }

    private static void promise4ParseGrouping() {
        Check.dueText("left union", Check.shown(Check.holding("x=0+x=1+x=2"), 0), "x=0+x=1+x=2");
        Check.dueText("(a+b)+c", Check.shown(Check.holding("(x=0+x=1)+x=2"), 0), "x=0+x=1+x=2");
        Check.dueText("a+(b+c)", Check.shown(Check.holding("x=0+(x=1+x=2)"), 0), "x=0+(x=1+x=2)");
        Check.dueText("(a.b).c", Check.shown(Check.holding("(x=0.x=1).x=2"), 0), "x=0.x=1.x=2");
        Check.dueText("a.(b.c)", Check.shown(Check.holding("x=0.(x=1.x=2)"), 0), "x=0.(x=1.x=2)");
        // The sequence binds closer than the union, and a negation closer than the sequence.
        Check.due("a+b.c", Check.holding("x=0+x=1.y:2").outputs(0, 3), 8);
        Check.due("!a.b", Check.holding("!x=0.x=1").outputs(0, 16), 1L << 16);
        Check.due("!(a.b)", Check.holding("!(x=0.x=1)").outputs(0, 0), 1);
        Check.due("a.b*", Check.holding("x=1.y:2*").outputs(0, 0), 0);
    }

    private static void promise4ParseLetters() {
        PolicyCompiler x = new PolicyCompiler();
        Check.parse(x, 0, "x=0+y=1");
        Check.parse(x, 1, "z:1");
        Check.parse(x, 2, "!x=3");
        Check.parse(x, 3, "y:0");
        Check.due("parse of p.q+!r+s*", Check.parse(x, 0, "p.q+!r+s*"), 12);
        Check.dueText("slot 0", Check.shown(x, 0), "(x=0+y=1).z:1+!!x=3+y:0*");
        // A letter stands for what its slot holds when the text is parsed, not later.
        Check.parse(x, 1, "z:2");
        Check.dueText("slot 0", Check.shown(x, 0), "(x=0+y=1).z:1+!!x=3+y:0*");
        Check.due("parse of pp", Check.parse(x, 0, "pp"), -11);
        Check.due("parse of !q", Check.parse(x, 0, "!q"), -11);
        Check.due("parse of [s?1|0]", Check.parse(x, 0, "[s?1|0]"), -11);
        Check.due("parse of [r?s|q]", Check.parse(x, 0, "[r?s|q]"), 5);
        Check.dueText("slot 0", Check.shown(x, 0), "[!x=3?y:0|z:2]");
        Check.due("parse of t", Check.parse(x, 0, "t"), -10);
        Check.due("parse of o", Check.parse(x, 0, "o"), -10);
    }

    private static void promise4ParseNesting() {
        dueParse("(".repeat(74) + "1" + ")".repeat(74), 1);
        dueParse("(".repeat(73) + "x=2" + ")".repeat(74), -10 - 149);
        dueParse("(".repeat(150), -160);
        dueParse("(".repeat(149) + "1", -160);
        dueParse("[".repeat(150), -160);
        dueParse("!".repeat(150), -160);
        dueParse("!".repeat(59) + "0", 60);
        dueParse("!".repeat(147) + "x=1", -4);
        dueParse("!".repeat(147) + "x:1", -10 - 147);
        dueParse("1" + "*".repeat(59), 60);
        dueParse("1" + "*".repeat(149), -4);
        dueParse("[1?1|".repeat(19) + "0" + "]".repeat(19), 58);
        dueParse("[".repeat(19) + "1" + "?1|0]".repeat(19), 58);
        dueParse("1" + "+1".repeat(74), -4);
        dueParse("1.(".repeat(29) + "0" + ")".repeat(29), 59);
        dueParse("(1+".repeat(29) + "y:1" + ")*".repeat(2) + ")".repeat(27), -4);
        dueParse("(1+".repeat(29) + "y:1" + ")".repeat(29) + "*", 60);
    }

    private static void promise4SyntaxErrors() {
        dueParse("", -10);
        dueParse("+", -10);
        dueParse(" 1", -10);
        dueParse("a", -10);
        dueParse(")", -10);
        dueParse("*", -10);
        dueParse("2", -10);
        dueParse("w=1", -10);
        dueParse("x", -11);
        dueParse("x1", -11);
        dueParse("x=", -12);
        dueParse("x=4", -12);
        dueParse("x:/", -12);
        dueParse("x==1", -12);
        dueParse("x=12", -13);
        dueParse("x=1 ", -13);
        dueParse("x=1+", -14);
        dueParse("x=1.", -14);
        dueParse("x=1++y=1", -14);
        dueParse("x=1.*", -14);
        dueParse("x=1)", -13);
        dueParse("x=1]", -13);
        dueParse("x=1?", -13);
        dueParse("x=1|", -13);
        dueParse("x=1!y=1", -13);
        dueParse("x=1(1)", -13);
        dueParse("1*1", -12);
        dueParse("(", -11);
        dueParse("()", -11);
        dueParse("(1", -12);
        dueParse("(1]", -12);
        dueParse("(1?1|1)", -12);
        dueParse("!", -11);
        dueParse("!*", -11);
        dueParse("!)", -11);
        dueParse("[", -11);
        dueParse("[]", -11);
        dueParse("[1", -12);
        dueParse("[1)", -12);
        dueParse("[1]", -12);
        dueParse("[1|", -12);
        dueParse("[1?", -13);
        dueParse("[1?|", -13);
        dueParse("[1?0", -14);
        dueParse("[1?0]", -14);
        dueParse("[1?0?", -14);
        dueParse("[1?0|", -15);
        dueParse("[1?0|]", -15);
        dueParse("[1?0|1", -16);
        dueParse("[1?0|1)", -16);
        dueParse("[1?0|1|", -16);
        dueParse("[1?(0|1]", -15);
        dueParse("[1?0|1]]", -17);
        dueParse("[1?0|1]x", -17);
        PolicyCompiler x = new PolicyCompiler();
        x.append(0);
        Check.due("parse of byte 0", x.parse(0), -10);
        x.clearText();
        x.append('1');
        x.append(127);
        Check.due("parse of byte 127", x.parse(0), -11);
    }

    private static void promise4PredicateErrors() {
        dueParse("!x:1", -11);
        dueParse("!x=1*", -11);
        dueParse("!1**", -11);
        dueParse("!(x:1)", -11);
        dueParse("!!x:1", -12);
        dueParse("!(1+!y:0)", -15);
        dueParse("!(x=1.y:0)", -11);
        dueParse("!(y:0+1)", -11);
        dueParse("![1?y:0|1]", -11);
        dueParse("![1?1|y:0]", -11);
        dueParse("![1?1|y=0]", 5);
        dueParse("!x=1.y:0", 4);
        dueParse("!x=1+y:0", 4);
        dueParse("x=1.!y:0", -15);
        dueParse("[x:1?1|0]", -11);
        dueParse("[x=1.y:1?1|0]", -11);
        dueParse("[x=1+y:1?1|0]", -11);
        dueParse("[x=1*?1|0]", -11);
        dueParse("[(x:1)?1|0]", -11);
        dueParse("[1?x:1|y:1]", 4);
        dueParse("[1?[x:1?1|0]|0]", -14);
        dueParse("[!x:1?1|0]", -12);
        dueParse("[1+!x:1?1|0]", -14);
        // Found before any later error, but only when the operand itself is whole.
        dueParse("!x:1)", -11);
        dueParse("!x:1x", -11);
        dueParse("!x:1+", -11);
        dueParse("!x:", -13);
        dueParse("!x:4", -13);
        dueParse("!(x:1", -15);
        dueParse("!(x:1]", -15);
        dueParse("!(x:1+)", -16);
        dueParse("[x:1", -11);
        dueParse("[x:1]", -11);
        dueParse("[x:1x", -11);
        dueParse("[x:1|", -11);
        dueParse("[x:1?", -11);
        dueParse("[x:1?)", -11);
        dueParse("[x:1+", -15);
        dueParse("[x:1.", -15);
        dueParse("[x:1.)", -15);
        dueParse("[(x:1?", -15);
        dueParse("![x=1?y:1|0", -10 - 11);
        // An earlier error comes first.
        dueParse("x!y:1", -11);
        dueParse("(1+)!y:1", -13);
    }

    private static void promise4TooLarge() {
        dueParse("1+1.1+".repeat(10) + "1", -4);
        dueParse("!(" + "1+".repeat(29) + "1)", 60);
        dueParse("(" + "1+".repeat(29) + "1)**", -4);
        dueParse("1+".repeat(29) + "1*", 60);
        dueParse("1+".repeat(29) + "1**", -4);
        dueParse("1+".repeat(31) + "x", -10 - 63);
        PolicyCompiler x = Check.holding("1+".repeat(29) + "1");
        Check.due("size(0)", x.size(0), 59);
        Check.due("parse of p*", Check.parse(x, 1, "p*"), 60);
        Check.due("parse of p**", Check.parse(x, 1, "p**"), -4);
        Check.due("parse of q*", Check.parse(x, 1, "q*"), -4);
        Check.due("parse of q", Check.parse(x, 2, "q"), 60);
        Check.due("parse of p+r", Check.parse(x, 1, "p+r"), -4);
        Check.due("parse of q.q.q...", Check.parse(x, 1, "q.".repeat(74) + "q"), -4);
        Check.due("parse of !p", Check.parse(x, 1, "!p"), 60);
        // A policy that is too large is still looked through for errors.
        Check.due("parse of p+p!", Check.parse(x, 1, "p+p!"), -13);
        Check.due("parse of !(p+p*)", Check.parse(x, 1, "!(p+p*)"), -11);
        Check.due("parse of !(p+p)", Check.parse(x, 1, "!(p+p)"), -4);
        Check.due("parse of [p+p?p|p", Check.parse(x, 1, "[p+p?p|p"), -18);
        Check.due("errorCount(-4)", x.errorCount(-4), 5);
    }

    private static void promise4ErrorsChangeNothing() {
        PolicyCompiler x = Check.holding("x=1");
        Check.type(x, "!y:1");
        Check.due("parse(-1)", x.parse(-1), -2);
        Check.due("parse(4)", x.parse(4), -2);
        Check.due("parse(0)", x.parse(0), -11);
        Check.type(x, "1+".repeat(30) + "1");
        Check.due("parse(0)", x.parse(0), -4);
        Check.dueText("slot 0", Check.shown(x, 0), "x=1");
        Check.due("errorCount(-2)", x.errorCount(-2), 2);
        Check.due("errorCount(-3)", x.errorCount(-3), 0);
        Check.due("errorCount(-4)", x.errorCount(-4), 1);
        Check.due("errorCount(-5)", x.errorCount(-5), 0);
        Check.due("errorCount(-6)", x.errorCount(-6), 0);
        Check.due("only one state is saved", x.undo(), 0);
        Check.due("undo()", x.undo(), -6);
        Check.due("the text stayed", x.clearText(), 61);
    }

    /** What one parse leaves behind must not reach the next one. */
    private static void promise4ParseAgainAndAgain() {
        PolicyCompiler x = new PolicyCompiler();
        Check.type(x, "[!x=1?!y=2|y=0.(z=1+z=2)]");
        for (int i = 0; i < 20; i++) {
            Check.due("parse(0)", x.parse(0), 10);
            Check.due("isPredicate(0)", x.isPredicate(0), 1);
        }
        Check.type(x, "x=1");
        for (int i = 0; i < 200; i++) {
            Check.due("parse(0)", x.parse(0), 1);
        }
        Check.type(x, "((((([!x=1");
        Check.due("parse(0)", x.parse(0), -20);
        Check.type(x, "x:1");
        Check.due("parse(0)", x.parse(0), 1);
        Check.due("isPredicate(0)", x.isPredicate(0), 0);
    }

    private static void promise5Combine() {
        PolicyCompiler x = new PolicyCompiler();
        Check.parse(x, 0, "x=1+x=2");
        Check.parse(x, 1, "y:3");
        Check.due("combine(0, 0, 1, 2)", x.combine(0, 0, 1, 2), 5);
        Check.dueText("union", Check.shown(x, 2), "x=1+x=2+y:3");
        Check.due("combine(0, 1, 0, 3)", x.combine(0, 1, 0, 3), 5);
        Check.dueText("union", Check.shown(x, 3), "y:3+(x=1+x=2)");
        Check.due("combine(1, 0, 1, 3)", x.combine(1, 0, 1, 3), 5);
        Check.dueText("sequence", Check.shown(x, 3), "(x=1+x=2).y:3");
        Check.due("combine(1, 3, 3, 3)", x.combine(1, 3, 3, 3), 11);
        Check.dueText("sequence", Check.shown(x, 3), "(x=1+x=2).y:3.((x=1+x=2).y:3)");
        Check.due("combine(0, 0, 0, 0)", x.combine(0, 0, 0, 0), 7);
        Check.dueText("the target is an operand", Check.shown(x, 0), "x=1+x=2+(x=1+x=2)");
        Check.due("isPredicate(0)", x.isPredicate(0), 1);
        Check.due("isPredicate(3)", x.isPredicate(3), 0);
        Check.due("combine is undoable", x.undo(), 4);
        Check.dueText("slot 0", Check.shown(x, 0), "x=1+x=2");
    }

    private static void promise5CombineErrors() {
        PolicyCompiler x = Check.holding("1+".repeat(14) + "y:1");
        Check.due("combine to 59", x.combine(0, 0, 0, 1), 59);
        Check.due("combine(-1, 0, 0, 0)", x.combine(-1, 0, 0, 0), -2);
        Check.due("combine(2, 0, 0, 0)", x.combine(2, 0, 0, 0), -2);
        Check.due("combine(0, -1, 0, 0)", x.combine(0, -1, 0, 0), -2);
        Check.due("combine(0, 4, 0, 0)", x.combine(0, 4, 0, 0), -2);
        Check.due("combine(0, 0, -1, 0)", x.combine(0, 0, -1, 0), -2);
        Check.due("combine(0, 0, 4, 0)", x.combine(0, 0, 4, 0), -2);
        Check.due("combine(1, 0, 0, -1)", x.combine(1, 0, 0, -1), -2);
        Check.due("combine(1, 0, 0, 4)", x.combine(1, 0, 0, 4), -2);
        Check.due("too large, but out of range first", x.combine(1, 1, 1, 4), -2);
        Check.due("errorCount(-2)", x.errorCount(-2), 9);
        Check.due("59 + 1 + 1", x.combine(0, 1, 2, 3), -4);
        Check.due("59 + 59 + 1", x.combine(1, 1, 1, 1), -4);
        Check.due("errorCount(-4)", x.errorCount(-4), 2);
        Check.due("size(1)", x.size(1), 59);
        Check.due("size(3)", x.size(3), 1);
        Check.due("errors save nothing", x.undo(), 1);
        Check.parse(x, 0, "!(" + "1+".repeat(28) + "1)");
        Check.due("58 + 1 + 1", x.combine(1, 0, 2, 3), 60);
        Check.due("59 + 1 + 1", x.combine(1, 3, 2, 3), -4);
    }

    private static void promise6Modify() {
        PolicyCompiler x = Check.holding("x=1+y=2");
        Check.due("modify(1, 0, 1)", x.modify(1, 0, 1), 4);
        Check.dueText("negation", Check.shown(x, 1), "!(x=1+y=2)");
        Check.due("isPredicate(1)", x.isPredicate(1), 1);
        Check.due("modify(0, 0, 2)", x.modify(0, 0, 2), 4);
        Check.dueText("repetition", Check.shown(x, 2), "(x=1+y=2)*");
        Check.due("isPredicate(2)", x.isPredicate(2), 0);
        Check.due("modify(0, 1, 1)", x.modify(0, 1, 1), 5);
        Check.dueText("in place", Check.shown(x, 1), "(!(x=1+y=2))*");
        Check.dueText("the operand stays", Check.shown(x, 0), "x=1+y=2");
        Check.due("modify is undoable", x.undo(), 3);
        Check.dueText("slot 1", Check.shown(x, 1), "!(x=1+y=2)");
    }

    private static void promise6ModifyErrors() {
        PolicyCompiler x = Check.holding("1+".repeat(29) + "1");
        Check.due("modify(-1, 0, 0)", x.modify(-1, 0, 0), -2);
        Check.due("modify(2, 0, 0)", x.modify(2, 0, 0), -2);
        Check.due("modify(0, -1, 0)", x.modify(0, -1, 0), -2);
        Check.due("modify(0, 4, 0)", x.modify(0, 4, 0), -2);
        Check.due("modify(0, 0, -1)", x.modify(0, 0, -1), -2);
        Check.due("modify(1, 0, 4)", x.modify(1, 0, 4), -2);
        Check.due("59 + 1", x.modify(0, 0, 1), 60);
        Check.due("a repetition is no predicate", x.modify(1, 1, 2), -3);
        Check.due("out of range first", x.modify(1, 1, 4), -2);
        Check.due("60 + 1", x.modify(0, 1, 2), -4);
        Check.due("59 + 1", x.modify(1, 0, 2), 60);
        Check.due("60 + 1", x.modify(1, 2, 2), -4);
        Check.due("errorCount(-2)", x.errorCount(-2), 7);
        Check.due("errorCount(-3)", x.errorCount(-3), 1);
        Check.due("errorCount(-4)", x.errorCount(-4), 2);
        Check.due("size(3)", x.size(3), 1);
        Check.due("errors save nothing", x.undo(), 2);
    }

    private static void promise7Size() {
        PolicyCompiler x = Check.holding("[x=1?y:2*|!z=0.(1+0)]");
        Check.due("size(0)", x.size(0), 10);
        Check.due("size(1)", x.size(1), 1);
        Check.parse(x, 3, "1" + "*".repeat(59));
        Check.due("size(3)", x.size(3), 60);
        Check.due("size(-1)", x.size(-1), -2);
        Check.due("size(4)", x.size(4), -2);
        Check.due("errorCount(-2)", x.errorCount(-2), 2);
    }

    private static void duePredicate(String text, int want) {
        Check.due("isPredicate of " + text, Check.holding(text).isPredicate(0), want);
    }

    private static void promise8IsPredicate() {
        duePredicate("0", 1);
        duePredicate("1", 1);
        duePredicate("x=3", 1);
        duePredicate("x:3", 0);
        duePredicate("!x=3", 1);
        duePredicate("x=3+y=1", 1);
        duePredicate("x=3+y:1", 0);
        duePredicate("x:3+y=1", 0);
        duePredicate("x=3.y=1", 1);
        duePredicate("x=3.y:1", 0);
        duePredicate("x:3.y=1", 0);
        duePredicate("1*", 0);
        duePredicate("[x=1?1|y=1]", 1);
        duePredicate("[x=1?1|y:1]", 0);
        duePredicate("[x=1?y:1|1]", 0);
        duePredicate("[x=1?1*|1]", 0);
        duePredicate("y:1.[1?1|1]", 0);
        duePredicate("y=1.[1?1|1]", 1);
        duePredicate("p.(q+s)", 1);
        PolicyCompiler x = new PolicyCompiler();
        Check.due("isPredicate(-1)", x.isPredicate(-1), -2);
        Check.due("isPredicate(4)", x.isPredicate(4), -2);
        Check.due("errorCount(-2)", x.errorCount(-2), 2);
    }

    private static void promise9Printed() {
        PolicyCompiler x = Check.holding("((x=0)).y:2");
        Check.due("printed(0, -1)", x.printed(0, -1), 7);
        Check.due("printed(0, 0)", x.printed(0, 0), 'x');
        Check.due("printed(0, 3)", x.printed(0, 3), '.');
        Check.due("printed(0, 6)", x.printed(0, 6), '2');
        Check.due("printed(0, 7)", x.printed(0, 7), -1);
        Check.due("printed(0, max)", x.printed(0, Integer.MAX_VALUE), -1);
        Check.due("printed(0, -2)", x.printed(0, -2), -2);
        Check.due("printed(0, min)", x.printed(0, Integer.MIN_VALUE), -2);
        Check.due("printed(-1, 0)", x.printed(-1, 0), -2);
        Check.due("printed(4, -1)", x.printed(4, -1), -2);
        Check.due("errorCount(-2)", x.errorCount(-2), 4);
        x.combine(1, 1, 0, 0);
        Check.dueText("after a change", Check.shown(x, 0), "1.(x=0.y:2)");
        x.undo();
        Check.dueText("after undo()", Check.shown(x, 0), "x=0.y:2");
    }

    private static void dueForm(String text, String want) {
        Check.dueText("printed form of " + text, Check.shown(Check.holding(text), 0), want);
    }

    private static void promise9PrintedParentheses() {
        String[] asTheyAre = {"0", "1", "x=0", "y:1", "z=3", "x=0+y=0", "x=0.y=0", "x=0.y=0+z=0.x=1",
            "(x=0+y=0).z=0", "z=0.(x=0+y=0)", "z=0.(x=0.y=0)", "z=0+(x=0+y=0)", "(x=0+y=0)*",
            "(x=0.y=0)*", "(!x=0)*", "!(x=0+y=0)", "!(x=0.y=0)", "!!x=0", "!x=0.y=0", "x=0.!y=0",
            "!x=0+!y=0", "x:0**", "x:0*.y:0*", "x:0*+y:0", "[x=0?y:1|z:2]", "[x=0?y:1|z:2]*",
            "![x=0?y=1|z=2]", "[x=0+y=0?x:1+y:1|x:2+y:2]", "[!x=0?x:1.y:1|(x:2.y:2)*]",
            "[[x=0?1|0]?[y=0?y:1|0]|[z=0?z:1|0]].[1?0|1]", "[1?0|1]+[1?1|1]", "((x=0+y=0)*+1)*"};
        for (String text : asTheyAre) {
            dueForm(text, text);
        }
        dueForm("z:3" + "*".repeat(59), "z:3" + "*".repeat(59));
        dueForm("(x=0)+(y=0)", "x=0+y=0");
        dueForm("(x=0.y=0)+z=0", "x=0.y=0+z=0");
        dueForm("x=0+(y=0.z=0)", "x=0+y=0.z=0");
        dueForm("(x=0.y=0).z=0", "x=0.y=0.z=0");
        dueForm("(x:0*)*", "x:0**");
        dueForm("(x:0)*", "x:0*");
        dueForm("!(x=0)", "!x=0");
        dueForm("!(!x=0)", "!!x=0");
        dueForm("(!x=0).y=0", "!x=0.y=0");
        dueForm("y=0.(!x=0)", "y=0.!x=0");
        dueForm("([x=0?y:1|z:2])*", "[x=0?y:1|z:2]*");
        dueForm("[(x=0+y=0)?(x:1+y:1)|(x:2)]", "[x=0+y=0?x:1+y:1|x:2]");
        String longest = "[y=1?z:2|".repeat(19) + "x:3" + "]".repeat(19);
        PolicyCompiler x = new PolicyCompiler();
        Check.parse(x, 1, "[y=1?z:2|".repeat(12) + "x:3" + "]".repeat(12));
        Check.due("size", Check.parse(x, 0, "[y=1?z:2|".repeat(7) + "q" + "]".repeat(7)), 58);
        Check.dueText("a long form", Check.shown(x, 0), longest);
        Check.parse(x, 1, "x:3");
        for (int i = 0; i < 4; i++) {
            Check.parse(x, 1, "(z:1.(y:2+q))*".replace("z:1.", i == 3 ? "" : "z:1."));
        }
        Check.dueText("nested", Check.shown(x, 1),
                "(y:2+(z:1.(y:2+(z:1.(y:2+(z:1.(y:2+x:3))*))*))*)*");
    }
}
