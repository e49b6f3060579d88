/** The edges of the document's sentences on the policy text, and of promises 1 to 4. */
public final class TextBoundsTest {
    private static final String FACTOR_BEGINS = "01pqrs!([xyz";
    private static final String ATOMS = "01pqrs";
    private static final String OPENERS = "!([xyz";

    public static void main(String[] args) {
        newObject();
        bytesOfAppend();
        roomOfTheText();
        emptyText();
        clearedLengths();
        onePolicyWithoutSpaces();
        fullTextParses();
        nextByteAtAFactor();
        nextByteInALeaf();
        nextByteBehindAnAtom();
        nextByteInBrackets();
        lettersWhenParsed();
        groupingToTheLeft();
        errorPositions();
        operandOfANegation();
        conditionOfAChoice();
        operandWithAnErrorOfItsOwn();
        beforeAnyLaterError();
        behindAnEarlierError();
        letterThatIsNoPredicate();
        predicateErrorsAtTheEdges();
        syntaxErrorsChangeNothing();
        parseChecksInOrder();
        Check.end();
    }

    private static void newObject() {
        Check.sentence("Creates a compiler whose slots all hold the constant 1, with an empty policy text.");
        PolicyCompiler x = new PolicyCompiler();
        Check.due("clearText()", x.clearText(), 0);
        Check.due("append(49)", x.append(49), 1);
        for (int s = 0; s < 4; s++) {
            Check.dueText("slot " + s, Check.shown(x, s), "1");
        }
        PolicyCompiler y = Check.holding("0");
        y.size(-1);
        Check.due("another object", new PolicyCompiler().accepted(0), -1);
        Check.due("another object", new PolicyCompiler().clearText(), 0);
        Check.due("another object", new PolicyCompiler().errorCount(-2), 0);
        Check.due("another object", new PolicyCompiler().undo(), -6);
    }

    private static void bytesOfAppend() {
        Check.sentence("`value`: the byte, 0 to 127");
        PolicyCompiler x = new PolicyCompiler();
        for (int value = 0; value <= 127; value++) {
            Check.due("append(" + value + ")", x.append(value), value + 1);
        }
        int[] outside = {-1, 128, -2, 129, 255, 256, 305, -128, 65536 + 49, Integer.MIN_VALUE,
            Integer.MIN_VALUE + 49, Integer.MAX_VALUE};
        for (int value : outside) {
            Check.due("append(" + value + ")", x.append(value), -2);
        }
        Check.due("errorCount(-2)", x.errorCount(-2), outside.length);
        Check.due("clearText()", x.clearText(), 128);
    }

    private static void roomOfTheText() {
        Check.sentence("FULL if the text has 150 bytes.");
        PolicyCompiler x = new PolicyCompiler();
        for (int length = 1; length <= 150; length++) {
            Check.due("append", x.append(length < 150 ? '!' : '1'), length);
        }
        Check.due("byte 151", x.append('1'), -5);
        Check.due("byte 151 again", x.append('0'), -5);
        Check.due("errorCount(-5)", x.errorCount(-5), 2);
        Check.sentence("The checks of a method are made in the order in which its error codes are listed.");
        Check.due("a wrong byte on a full text", x.append(-1), -2);
        Check.due("a wrong byte on a full text", x.append(128), -2);
        Check.due("errorCount(-5)", x.errorCount(-5), 2);
        Check.due("errorCount(-2)", x.errorCount(-2), 2);
        Check.due("parse of the full text", x.parse(0), -4);
        Check.due("clearText()", x.clearText(), 150);
        for (int length = 1; length <= 150; length++) {
            Check.due("append once more", x.append('1'), length);
        }
        Check.due("full once more", x.append('1'), -5);
    }

    private static void emptyText() {
        Check.sentence("or the length of the text if it ends too early.");
        PolicyCompiler x = new PolicyCompiler();
        Check.due("parse of the empty text", x.parse(0), -10);
        Check.due("parse of the empty text", x.parse(3), -10);
        Check.type(x, "1");
        Check.due("parse of one byte", x.parse(0), 1);
        Check.due("clearText()", x.clearText(), 1);
        Check.due("parse of the emptied text", x.parse(0), -10);
        Check.due("only one state is saved", x.undo(), 0);
    }

    private static void clearedLengths() {
        Check.sentence("Returns the length that it had.");
        PolicyCompiler x = new PolicyCompiler();
        int[] lengths = {0, 1, 2, 149, 150, 0};
        for (int length : lengths) {
            for (int i = 0; i < length; i++) {
                x.append('1');
            }
            Check.due("clearText()", x.clearText(), length);
            Check.due("clearText() again", x.clearText(), 0);
        }
        Check.sentence("Empties the policy text.");
        Check.type(x, "z=3");
        Check.due("parse(0)", x.parse(0), 1);
        x.clearText();
        Check.due("parse of nothing", x.parse(0), -10);
        Check.due("append", x.append('0'), 1);
        Check.due("parse of the new byte alone", x.parse(1), 1);
        Check.dueText("slot 1", Check.shown(x, 1), "0");
    }

    private static void dueParse(String text, int want) {
        Check.due("parse of " + text, Check.parsed(text), want);
    }

    private static void onePolicyWithoutSpaces() {
        Check.sentence("The text has at most 150 bytes and is one policy, without spaces.");
        String text = "[x=1+!p?(y:2.z:3)*|q]";
        dueParse(text, 10);
        for (int at = 0; at <= text.length(); at++) {
            for (char blank : new char[] {' ', '\t', '\n', 0}) {
                dueParse(text.substring(0, at) + blank + text.substring(at), -10 - at);
            }
        }
        dueParse("x=1y=1", -13);
        dueParse("11", -11);
        dueParse("1!1", -11);
        dueParse("(1)(1)", -13);
        dueParse("[1?1|1][1?1|1]", -17);
    }

    private static void fullTextParses() {
        Check.sentence("The text has at most 150 bytes and is one policy, without spaces.");
        dueParse("(".repeat(73) + "x=2" + ")".repeat(73), 1);
        dueParse("!" + "(".repeat(73) + "x=2" + ")".repeat(73), 2);
        dueParse("(".repeat(73) + "x=2" + ")".repeat(73) + "*", 2);
        dueParse("(".repeat(74) + "1" + ")".repeat(74) + "*", 2);
        // 150 bytes with 60 nodes.
        String leaves = "x:1" + "+x:1".repeat(29);
        dueParse("(".repeat(15) + leaves + ")".repeat(15) + "*", 60);
        Check.due("length", leaves.length() + 31, 150);
    }

    /** Parses a text of which all but the last byte can stand, with all bytes behind it in turn. */
    private static void dueNext(String begin, String ending, String goingOn) {
        for (char next = 0; next < 128; next++) {
            String text = begin + next;
            int want = -10 - begin.length();
            if (goingOn.indexOf(next) >= 0) {
                want--;
            }
            if (ending.indexOf(next) >= 0) {
                Check.that("parse of " + text, Check.parsed(text) > 0);
            } else {
                dueParse(text, want);
            }
            if (ending.indexOf(next) < 0 && goingOn.indexOf(next) < 0) {
                dueParse(text + "1)]", want);
            }
        }
    }

    private static void nextByteAtAFactor() {
        Check.sentence("a union is one or more sequences, separated by + ; a sequence is one or more "
                + "factors, separated by a dot; a factor is ! followed by a factor, or an atom followed "
                + "by zero or more * ;");
        dueNext("", ATOMS, OPENERS);
        dueNext("!", ATOMS, OPENERS);
        dueNext("!!", ATOMS, OPENERS);
        dueNext("1+", ATOMS, OPENERS);
        dueNext("1.", ATOMS, OPENERS);
        dueNext("x=1*.", ATOMS, OPENERS);
        dueNext("1+1.!", ATOMS, OPENERS);
    }

    private static void nextByteInALeaf() {
        Check.sentence("an atom is 0, or 1, or a field letter (x, y or z) followed by = or : and a digit "
                + "from 0 to 3,");
        for (String letter : new String[] {"x", "y", "z", "1.z", "(y", "!x"}) {
            dueNext(letter, "", "=:");
        }
        dueNext("x=", "0123", "");
        dueNext("y=", "0123", "");
        dueNext("z=", "0123", "");
        dueNext("x:", "0123", "");
        dueNext("y:", "0123", "");
        dueNext("z:", "0123", "");
        dueNext("!z=", "0123", "");
        dueNext("(z=", "", "0123");
        dueNext("[x=", "", "0123");
    }

    private static void nextByteBehindAnAtom() {
        Check.sentence("a factor is ! followed by a factor, or an atom followed by zero or more * ;");
        for (String text : new String[] {"0", "1", "x=3", "z:0", "p", "s", "(1)", "[1?1|1]", "x:0*", "1**",
            "1+1", "1.1", "!1.0", "!1+0"}) {
            dueNext(text, "*", ".+");
        }
        // A star behind the operand of a negation belongs to the operand, which is no predicate then.
        for (String text : new String[] {"!1", "!!1", "1.!1", "1+!p"}) {
            dueParse(text + "*", -10 - text.length() + 1);
            dueParse(text + "**", -10 - text.length() + 1);
            dueParse(text + ".", -11 - text.length());
            dueParse(text + "+", -11 - text.length());
            dueParse(text + "!", -10 - text.length());
            dueParse(text + "1", -10 - text.length());
            dueParse(text + ")", -10 - text.length());
            dueParse(text + "?", -10 - text.length());
        }
    }

    private static void nextByteInBrackets() {
        Check.sentence("or a union in parentheses, or a choice [union?union|union],");
        dueNext("(", "", FACTOR_BEGINS);
        dueNext("((", "", FACTOR_BEGINS);
        dueNext("(1", ")", "*.+");
        dueNext("((1", "", ")*.+");
        dueNext("((1)", ")", "*.+");
        dueNext("(1+1", ")", "*.+");
        dueNext("[", "", FACTOR_BEGINS);
        dueNext("[1?", "", FACTOR_BEGINS);
        dueNext("[1?1|", "", FACTOR_BEGINS);
        dueNext("[1?1", "", "|*.+");
        dueNext("[1?1*", "", "|*.+");
        dueNext("[1?1|1", "]", "*.+");
        dueNext("[1?1+x:1|y:1.0", "]", "*.+");
        dueNext("([1?1|1", "", "]*.+");
        dueNext("([1?1|1]", ")", "*.+");
        dueNext("[(1", "", ")*.+");
        dueNext("[1?(1", "", ")*.+");
        dueNext("[1?1|(1", "", ")*.+");
        dueNext("[1?[1?1|1", "", "]*.+");
        dueNext("[1?[1?1|1]", "", "|*.+");
        dueNext("[1?1|[1?1|1]", "]", "*.+");
        // A star would make the condition no predicate; of the other bytes only these can stand.
        for (String text : new String[] {"[1", "[x=1", "[(1)", "[1+1", "[1.1", "[!1", "[[1?1|1]"}) {
            for (char next = 0; next < 128; next++) {
                if (next != '*') {
                    int behind = "?.+".indexOf(next) >= 0 ? 1 : 0;
                    dueParse(text + next, -10 - text.length() - behind);
                }
            }
        }
    }

    private static void lettersWhenParsed() {
        Check.sentence("or one of the letters p, q, r and s, which stands for the policy that the slot 0, "
                + "1, 2 or 3 holds when the text is parsed.");
        PolicyCompiler x = Check.holding("x:0", "x:1", "x:2", "x:3");
        Check.type(x, "p.q.r.s");
        Check.due("parse(2)", x.parse(2), 7);
        Check.dueText("slot 2", Check.shown(x, 2), "x:0.x:1.x:2.x:3");
        Check.due("the same text again", x.parse(2), 13);
        Check.dueText("slot 2", Check.shown(x, 2), "x:0.x:1.(x:0.x:1.x:2.x:3).x:3");
        x.modify(0, 0, 0);
        Check.dueText("slot 2 stays", Check.shown(x, 2), "x:0.x:1.(x:0.x:1.x:2.x:3).x:3");
        x.undo();
        x.undo();
        Check.due("after undo()", x.parse(0), 13);
        Check.dueText("slot 0", Check.shown(x, 0), "x:0.x:1.(x:0.x:1.x:2.x:3).x:3");
        dueParse("o", -10);
        dueParse("t", -10);
        dueParse("P", -10);
    }

    private static void groupingToTheLeft() {
        Check.sentence("Unions and sequences of more than two operands group to the left: a+b+c is (a+b)+c.");
        PolicyCompiler x = Check.holding("x=0", "x=1", "x=2");
        for (int kind = 0; kind <= 1; kind++) {
            String sign = kind == 0 ? "+" : ".";
            x.combine(kind, 0, 1, 3);
            x.combine(kind, 3, 2, 3);
            String combined = Check.shown(x, 3);
            Check.dueText("(a" + sign + "b)" + sign + "c", combined, "x=0" + sign + "x=1" + sign + "x=2");
            Check.parse(x, 3, combined);
            Check.dueText("parsed", Check.shown(x, 3), combined);
            Check.parse(x, 3, "p" + sign + "(q" + sign + "r)");
            Check.dueText("to the right", Check.shown(x, 3), "x=0" + sign + "(x=1" + sign + "x=2)");
        }
        String longest = "x=1" + "+x=2".repeat(29);
        Check.dueText("30 operands", Check.shown(Check.holding(longest), 0), longest);
        Check.dueText("30 operands", Check.shown(Check.holding(longest.replace('+', '.')), 0),
                longest.replace('+', '.'));
        Check.dueText("sequences in unions", Check.shown(Check.holding("x=0.x=1.x=2+y=0.y=1+z=0"), 0),
                "x=0.x=1.x=2+y=0.y=1+z=0");
    }

    private static void errorPositions() {
        Check.sentence("The syntax error position is the index of the first byte that cannot stand where it "
                + "stands, or the length of the text if it ends too early.");
        // At index 0, at the last index that there is, and at the greatest length.
        dueParse(")", -10);
        dueParse(")" + "(".repeat(149), -10);
        dueParse("(".repeat(149) + ")", -159);
        dueParse("1" + "*".repeat(148) + "1", -159);
        dueParse("(".repeat(150), -160);
        dueParse("1+".repeat(75), -160);
        dueParse("(".repeat(75) + "1" + ")".repeat(74), -160);
        dueParse("(".repeat(74) + "1" + ")".repeat(75), -159);
        dueParse("(".repeat(74) + "1" + ")".repeat(74) + "x", -159);
        dueParse("1" + ".1".repeat(74) + "x", -159);
        dueParse("1" + ".1".repeat(73) + ".x=", -160);
        dueParse("1" + ".1".repeat(73) + ".x4", -159);
        // Of several wrong bytes the first one counts.
        dueParse("x4=", -11);
        dueParse("1)+)", -11);
        dueParse("x=1+)x=5", -14);
        dueParse("[1|1?1]", -12);
    }

    private static void operandOfANegation() {
        Check.sentence("If the operand of a negation or the c of a choice is not a predicate, the syntax "
                + "error position is the index of the first byte of this operand or c,");
        String[] operands = {"x:0", "z:3", "x:0*", "1*", "1**", "(x:0)", "((x:0))", "(x:0+1)", "(1+x:0)",
            "(x:0.1)", "(1.x:0)", "(1+1)*", "(1)*", "[1?x:0|1]", "[1?1|x:0]", "[1?1|1]*", "(!1)*",
            "(1+1.x:0)"};
        for (String operand : operands) {
            dueParse("!" + operand, -11);
            dueParse("!!" + operand, -12);
            dueParse("1+!" + operand + "+1", -13);
            dueParse("1.!" + operand + ".1", -13);
            dueParse("(1*.!" + operand + ")", -15);
            dueParse("[1?!" + operand + "|1]", -14);
            dueParse("[1?1|!" + operand + "]", -16);
        }
        for (String operand : new String[] {"0", "x=0", "(x=0)", "(x=0+1)", "(x=0.1)", "!1", "[x=0?1|y=0]", "p"}) {
            Check.that("a predicate: " + operand, Check.parsed("!" + operand) > 0);
            Check.that("a predicate: " + operand, Check.parsed("!" + operand + ".x:0*") > 0);
            Check.that("a predicate: " + operand, Check.parsed("(!" + operand + ")*") > 0);
        }
    }

    private static void conditionOfAChoice() {
        Check.sentence("If the operand of a negation or the c of a choice is not a predicate, the syntax "
                + "error position is the index of the first byte of this operand or c,");
        String[] conditions = {"x:0", "1*", "(x:0)", "x:0+1", "1+x:0", "x:0.1", "1.x:0", "1+1+x:0", "x:0+1+1",
            "1.1.x:0", "x=0.y=0+1*", "[1?x:0|1]", "[1?1|x:0]", "[1?1|1]*", "(1)*"};
        for (String c : conditions) {
            dueParse("[" + c + "?1|1]", -11);
            dueParse("[[" + c + "?1|1]?1|1]", -12);
            dueParse("[1?[" + c + "?1|1]|1]", -14);
            dueParse("[1?1|[" + c + "?1|1]]", -16);
            dueParse("1+([" + c + "?1|1]", -14);
            dueParse("![" + c + "?1|1]", -12);
        }
        for (String c : new String[] {"0", "x=0", "(x=0)", "x=0+1", "x=0.1", "!1", "[x=0?1|y=0]", "p", "1+1.!0"}) {
            Check.that("a predicate: " + c, Check.parsed("[" + c + "?x:0|1*]") > 0);
        }
    }

    private static void operandWithAnErrorOfItsOwn() {
        Check.sentence("provided that the operand or c itself (up to its last byte) has no error;");
        dueParse("!x:", -13);
        dueParse("!x:4", -13);
        dueParse("!(x:0", -15);
        dueParse("!(x:0]", -15);
        dueParse("!(x:0+)", -16);
        dueParse("!(x:0.)", -16);
        dueParse("!((x:0)", -17);
        dueParse("![1?x:0|1", -19);
        dueParse("![1?x:0]1", -17);
        dueParse("![1?x:0", -17);
        dueParse("!(x:0+!x:0)", -17);
        dueParse("![x:0?x:0|1]", -12);
        dueParse("!!x:0", -12);
        dueParse("[x:", -13);
        dueParse("[x:4?1|1]", -13);
        dueParse("[x:0+?1|1]", -15);
        dueParse("[x:0+", -15);
        dueParse("[x:0.", -15);
        dueParse("[x:0+y?1|1]", -16);
        dueParse("[(x:0?1|1]", -15);
        dueParse("[x:0+!x:0?1|1]", -16);
        dueParse("[x:0+(1?1|1]", -17);
        dueParse("[!x:0?1|1]", -12);
    }

    private static void beforeAnyLaterError() {
        Check.sentence("this error is found before any later error.");
        for (char next = 0; next < 128; next++) {
            dueParse("!x:0" + next, -11);
            dueParse("!x:0" + next + next, -11);
            dueParse("!(1+x:0)" + next, -11);
            boolean goesOn = next == '+' || next == '.';
            dueParse("[x:0" + next, goesOn ? -15 : -11);
            dueParse("[1*" + next, goesOn ? -14 : -11);
        }
        // The end of the text is a later error too.
        dueParse("[x:0", -11);
        dueParse("[x:0?", -11);
        dueParse("[x:0?1", -11);
        dueParse("[x:0?1|1", -11);
        dueParse("(!x:0", -12);
        dueParse("([x:0", -12);
        dueParse("!x:0.!y:0", -11);
        dueParse("[x:0?!y:0|1]", -11);
        dueParse("!x:0+4", -11);
        // Whatever its size is.
        dueParse("!1" + "*".repeat(60), -11);
        dueParse("[1" + "*".repeat(60) + "?1|1]", -11);
    }

    private static void behindAnEarlierError() {
        Check.sentence("The syntax error position is the index of the first byte that cannot stand where it "
                + "stands,");
        dueParse(")!x:0", -10);
        dueParse("x!x:0", -11);
        dueParse("1!x:0", -11);
        dueParse("(1+)!x:0", -13);
        dueParse("[1|!x:0]", -12);
        dueParse("4[x:0?1|1]", -10);
        dueParse("1[x:0?1|1]", -11);
    }

    private static void letterThatIsNoPredicate() {
        Check.sentence("If the operand of a negation or the c of a choice is not a predicate,");
        PolicyCompiler x = Check.holding("x:0", "x=0", "1*", "[y=1?y=2|y=3]");
        int[] negations = {-11, 2, -11, 5};
        int[] choices = {-11, 4, -11, 7};
        for (int s = 0; s < 4; s++) {
            char letter = "pqrs".charAt(s);
            PolicyCompiler y = Check.holding("x:0", "x=0", "1*", "[y=1?y=2|y=3]");
            Check.due("parse of !" + letter, Check.parse(y, s, "!" + letter), negations[s]);
            y = Check.holding("x:0", "x=0", "1*", "[y=1?y=2|y=3]");
            Check.due("parse of a choice by " + letter, Check.parse(y, s, "[" + letter + "?1|1]"), choices[s]);
        }
        Check.due("parse of [q?p|r]", Check.parse(x, 3, "[q?p|r]"), 5);
        Check.due("parse of !s", Check.parse(x, 3, "!s"), -11);
    }

    private static void predicateErrorsAtTheEdges() {
        Check.sentence("If the operand of a negation or the c of a choice is not a predicate, the syntax "
                + "error position is the index of the first byte of this operand or c,");
        dueParseWithP("!".repeat(149) + "p", -159);
        dueParseWithP("[".repeat(149) + "p", -159);
        // An operand that goes from the second byte to the last.
        dueParseWithP("!1" + "*".repeat(148), -11);
        dueParseWithP("!" + "(".repeat(74) + "p" + ")".repeat(74), -11);
        dueParseWithP("[" + "1+".repeat(74) + "p", -11);
        dueParseWithP("!" + "(".repeat(75) + "p" + ")".repeat(73), -160);
    }

    /** Parses a text where slot 0 holds no predicate. */
    private static void dueParseWithP(String text, int want) {
        Check.due("parse of " + text, Check.parse(Check.holding("x:0"), 0, text), want);
    }

    private static void syntaxErrorsChangeNothing() {
        Check.sentence("-10 minus the syntax error position if there is a syntax error (then nothing "
                + "changes, and no error is counted);");
        String[] texts = {"", "x=4", "!x:0", "[1*?1|1]", "(1", "!p", "[p?1|1]"};
        int[] answers = {-10, -12, -11, -11, -12, -11, -11};
        for (int i = 0; i < texts.length; i++) {
            PolicyCompiler x = Check.holding("y:3");
            Check.due("parse of " + texts[i], Check.parse(x, 0, texts[i]), answers[i]);
            for (int code = -6; code <= -2; code++) {
                Check.due("errorCount(" + code + ")", x.errorCount(code), 0);
            }
            Check.dueText("slot 0", Check.shown(x, 0), "y:3");
            Check.due("isPredicate(0)", x.isPredicate(0), 0);
            Check.due("the same answer again", x.parse(0), answers[i]);
            Check.due("the text stays", x.clearText(), texts[i].length());
            Check.due("no state is saved", x.undo(), 0);
            Check.dueText("slot 0", Check.shown(x, 0), "1");
        }
    }

    private static void parseChecksInOrder() {
        Check.sentence("OUT_OF_RANGE if slot is out of range; -10 minus the syntax error position if there "
                + "is a syntax error (then nothing changes, and no error is counted); TOO_LARGE if the "
                + "policy has a size greater than 60.");
        PolicyCompiler x = Check.holding("1" + "*".repeat(59));
        Check.type(x, "p+p)");
        Check.due("a slot out of range and a syntax error", x.parse(4), -2);
        Check.due("a syntax error and too large", x.parse(0), -13);
        Check.type(x, "p+!p");
        Check.due("no predicate and too large", x.parse(0), -13);
        Check.type(x, "p+p");
        Check.due("a slot out of range and too large", x.parse(-1), -2);
        Check.due("too large", x.parse(0), -4);
        Check.due("errorCount(-2)", x.errorCount(-2), 2);
        Check.due("errorCount(-3)", x.errorCount(-3), 0);
        Check.due("errorCount(-4)", x.errorCount(-4), 1);
        Check.sentence("The text stays as it is.");
        Check.due("clearText()", x.clearText(), 3);
    }
}
