/** The edges of the document's sentences on the printed form, and of promises 5 to 9. */
public final class PrintBoundsTest {
    // One policy of each kind; those from TEST on to CHOICE can be asked for as predicates too.
    private static final String[] LEAVES = {"0", "1", "x=2", "y:3"};
    private static final String UNION = "x=0+y=1";
    private static final String SEQUENCE = "x=0.y=1";
    private static final String REPETITION = "z:2*";
    private static final String NEGATION = "!z=2";
    private static final String CHOICE = "[x=0?y=1|z=2]";

    public static void main(String[] args) {
        leavesAndBrackets();
        rightOperandOfAUnion();
        leftOperandOfAUnion();
        leftOperandOfASequence();
        rightOperandOfASequence();
        operandOfARepetition();
        operandOfANegation();
        partsOfAChoice();
        noMoreThanNeeded();
        noLetters();
        printedFormsOfCombinations();
        printedFormParsesAgain();
        indexOfPrinted();
        shortestAndLongestForm();
        kindsOfCombine();
        kindsOfModify();
        negationNeedsAPredicate();
        sizesFrom1To60();
        predicateOrNot();
        Check.end();
    }

    private static void dueForm(String text, String want) {
        Check.dueText("printed form of " + text, Check.shown(Check.holding(text), 0), want);
    }

    /** All kinds in a place in which some must stand in parentheses and the others must not. */
    private static void duePlace(String before, String behind, String[] wrapped, String[] bare) {
        for (String kind : wrapped) {
            String form = before + "(" + kind + ")" + behind;
            dueForm(form, form);
            dueForm(before + "((" + kind + "))" + behind, form);
        }
        for (String kind : bare) {
            dueForm(before + kind + behind, before + kind + behind);
            dueForm(before + "(" + kind + ")" + behind, before + kind + behind);
        }
    }

    private static String[] kinds(String... others) {
        String[] all = new String[LEAVES.length + others.length];
        System.arraycopy(LEAVES, 0, all, 0, LEAVES.length);
        System.arraycopy(others, 0, all, LEAVES.length, others.length);
        return all;
    }

    private static void leavesAndBrackets() {
        Check.sentence("The printed form of a policy has parentheses only where they are needed:");
        for (String kind : kinds(UNION, SEQUENCE, REPETITION, NEGATION, CHOICE)) {
            duePlace("", "", new String[0], new String[] {kind});
        }
    }

    private static void rightOperandOfAUnion() {
        Check.sentence("around the right operand of a union if it is a union;");
        duePlace("z=0+", "", new String[] {UNION}, kinds(SEQUENCE, REPETITION, NEGATION, CHOICE));
        duePlace("z=0+1+", "", new String[] {UNION}, kinds(SEQUENCE, REPETITION, NEGATION, CHOICE));
    }

    private static void leftOperandOfAUnion() {
        Check.sentence("The printed form of a policy has parentheses only where they are needed:");
        duePlace("", "+z=0", new String[0], kinds(UNION, SEQUENCE, REPETITION, NEGATION, CHOICE));
    }

    private static void leftOperandOfASequence() {
        Check.sentence("around the left operand of a sequence if it is a union;");
        duePlace("", ".z=0", new String[] {UNION}, kinds(SEQUENCE, REPETITION, NEGATION, CHOICE));
    }

    private static void rightOperandOfASequence() {
        Check.sentence("around the right operand of a sequence if it is a union or a sequence;");
        duePlace("z=0.", "", new String[] {UNION, SEQUENCE}, kinds(REPETITION, NEGATION, CHOICE));
    }

    private static void operandOfARepetition() {
        Check.sentence("around the operand of a repetition if it is a union, a sequence or a negation;");
        duePlace("", "*", new String[] {UNION, SEQUENCE, NEGATION}, kinds(REPETITION, CHOICE));
    }

    private static void operandOfANegation() {
        Check.sentence("around the operand of a negation if it is a union or a sequence.");
        duePlace("!", "", new String[] {UNION, SEQUENCE}, new String[] {"0", "1", "x=2", NEGATION, CHOICE});
    }

    private static void partsOfAChoice() {
        Check.sentence("The printed form of a policy has parentheses only where they are needed:");
        duePlace("[", "?z=0|z=1]", new String[0],
                new String[] {"0", "1", "x=2", UNION, SEQUENCE, NEGATION, CHOICE});
        duePlace("[z=0?", "|z=1]", new String[0], kinds(UNION, SEQUENCE, REPETITION, NEGATION, CHOICE));
        duePlace("[z=0?z=1|", "]", new String[0], kinds(UNION, SEQUENCE, REPETITION, NEGATION, CHOICE));
    }

    private static void noMoreThanNeeded() {
        Check.sentence("The printed form of a policy has parentheses only where they are needed:");
        dueForm("((((x=0))+((y=0))).((z=0)))", "(x=0+y=0).z=0");
        dueForm("(x=0+(y=0+(z=0+1)))", "x=0+(y=0+(z=0+1))");
        dueForm("(((x=0+y=0)+z=0)+1)", "x=0+y=0+z=0+1");
        dueForm("(x=0.(y=0.(z=0.1)))", "x=0.(y=0.(z=0.1))");
        dueForm("(((x=0.y=0).z=0).1)", "x=0.y=0.z=0.1");
        dueForm("((x=0.y=0)+(z=0.1))", "x=0.y=0+z=0.1");
        dueForm("(((!(!(!x=0)))))", "!!!x=0");
        dueForm("(((x:0)*)*)*", "x:0***");
        dueForm("((!x=0)*+(!(x=0))*)*", "((!x=0)*+(!x=0)*)*");
        dueForm("!((x=0).(y=0)).z=0", "!(x=0.y=0).z=0");
        dueForm("!([(x=0)?(1)|(0)])", "![x=0?1|0]");
    }

    private static void noLetters() {
        Check.sentence("(Letters of slots do not occur in it.)");
        PolicyCompiler x = Check.holding("x=0+y=1", "z:2", "!1", "0");
        Check.due("parse(3)", Check.parse(x, 3, "(p.q)*+!r.s"), 12);
        Check.dueText("slot 3", Check.shown(x, 3), "((x=0+y=1).z:2)*+!!1.0");
        Check.due("parse(0)", Check.parse(x, 0, "[p?q|!p]"), 9);
        Check.dueText("slot 0", Check.shown(x, 0), "[x=0+y=1?z:2|!(x=0+y=1)]");
    }

    private static void printedFormsOfCombinations() {
        Check.sentence("The printed form of a policy has parentheses only where they are needed:");
        String[] kinds = {UNION, SEQUENCE, NEGATION, CHOICE};
        String[] onTheLeft = {"(x=0+y=1).", "x=0.y=1.", "!z=2.", "[x=0?y=1|z=2]."};
        String[] onTheRight = {"1.(x=0+y=1)", "1.(x=0.y=1)", "1.!z=2", "1.[x=0?y=1|z=2]"};
        String[] repeated = {"(x=0+y=1)*", "(x=0.y=1)*", "(!z=2)*", "[x=0?y=1|z=2]*"};
        String[] negated = {"!(x=0+y=1)", "!(x=0.y=1)", "!!z=2", "![x=0?y=1|z=2]"};
        for (int k = 0; k < kinds.length; k++) {
            PolicyCompiler x = Check.holding(kinds[k]);
            x.combine(1, 0, 1, 2);
            Check.dueText("combine(1, 0, 1, 2)", Check.shown(x, 2), onTheLeft[k] + "1");
            x.combine(1, 1, 0, 2);
            Check.dueText("combine(1, 1, 0, 2)", Check.shown(x, 2), onTheRight[k]);
            x.modify(0, 0, 2);
            Check.dueText("modify(0, 0, 2)", Check.shown(x, 2), repeated[k]);
            x.modify(1, 0, 2);
            Check.dueText("modify(1, 0, 2)", Check.shown(x, 2), negated[k]);
            x.combine(0, 0, 1, 2);
            Check.dueText("combine(0, 0, 1, 2)", Check.shown(x, 2), kinds[k] + "+1");
            x.combine(0, 1, 0, 2);
            Check.dueText("combine(0, 1, 0, 2)", Check.shown(x, 2), k == 0 ? "1+(x=0+y=1)" : "1+" + kinds[k]);
        }
    }

    /** The printed form is the same policy's text: it has the same size and the same printed form. */
    private static void printedFormParsesAgain() {
        Check.sentence("The printed form of a policy has parentheses only where they are needed:");
        String[] texts = {"(x=0+(y=1.(z=2.x:3))*)*", "!(x=0+!(y=1.(z=2+x=3)))", "[[x=0?1|0]?(!x=0)*|x=0.(1.1)]",
            "((x=0+1).(x=1+1)).(x=2+1)", "(x=0+1).((x=1+1).(x=2+1))"};
        for (String text : texts) {
            PolicyCompiler x = Check.holding(text);
            Check.due("size of " + text, Check.parse(x, 1, Check.shown(x, 0)), x.size(0));
            Check.dueText("printed form of " + text, Check.shown(x, 1), Check.shown(x, 0));
        }
    }

    private static void indexOfPrinted() {
        Check.sentence("`index`: index of the byte, from 0, or -1 for the length of the printed form");
        PolicyCompiler x = Check.holding("x=1.(y:2)", "x=1.(y:2+0)");
        String[] forms = {"x=1.y:2", "x=1.(y:2+0)", "1", "1"};
        for (int s = 0; s < 4; s++) {
            Check.due("printed(" + s + ", -1)", x.printed(s, -1), forms[s].length());
            for (int i = 0; i < forms[s].length(); i++) {
                Check.due("printed(" + s + ", " + i + ")", x.printed(s, i), forms[s].charAt(i));
            }
        }
        Check.sentence("NONE if index is not less than the length;");
        for (int s = 0; s < 4; s++) {
            int length = forms[s].length();
            for (int index : new int[] {length, length + 1, 60, 150, 360, 361, Integer.MAX_VALUE}) {
                Check.due("printed(" + s + ", " + index + ")", x.printed(s, index), -1);
            }
        }
        Check.due("NONE is not counted", x.errorCount(-2), 0);
        Check.sentence("OUT_OF_RANGE if slot is out of range or index is less than -1.");
        for (int index : new int[] {-2, -3, -64, Integer.MIN_VALUE, Integer.MIN_VALUE + 1}) {
            Check.due("printed(0, " + index + ")", x.printed(0, index), -2);
        }
        for (int slot : new int[] {-1, 4, Integer.MIN_VALUE, Integer.MAX_VALUE}) {
            for (int index : new int[] {-2, -1, 0, 1000}) {
                Check.due("printed(" + slot + ", " + index + ")", x.printed(slot, index), -2);
            }
        }
        Check.due("errorCount(-2)", x.errorCount(-2), 21);
    }

    private static void shortestAndLongestForm() {
        Check.sentence("Returns the byte, or the length if index is -1;");
        PolicyCompiler x = new PolicyCompiler();
        Check.due("printed(0, -1)", x.printed(0, -1), 1);
        Check.due("printed(0, 0)", x.printed(0, 0), '1');
        Check.due("printed(0, 1)", x.printed(0, 1), -1);
        // A choice of leaves takes 13 bytes for 4 nodes; no policy of size 60 takes more than these.
        Check.parse(x, 1, "[x=1?y:2|".repeat(9) + "z:3" + "]".repeat(9));
        Check.due("size", Check.parse(x, 0, "[x=1?y:2|".repeat(10) + "q" + "]".repeat(10)), 58);
        Check.due("size", Check.parse(x, 0, "x:0+p"), 60);
        String form = "x:0+" + "[x=1?y:2|".repeat(19) + "z:3" + "]".repeat(19);
        Check.due("printed(0, -1)", x.printed(0, -1), 197);
        Check.due("printed(0, 0)", x.printed(0, 0), 'x');
        for (int i : new int[] {1, 2, 3, 4, 127, 128, 149, 150, 151, 176, 177, 178, 195}) {
            Check.due("printed(0, " + i + ")", x.printed(0, i), form.charAt(i));
        }
        Check.due("printed(0, 196)", x.printed(0, 196), ']');
        Check.due("printed(0, 197)", x.printed(0, 197), -1);
        // Parentheses as deep as they go.
        dueForm("1.(".repeat(29) + "x=1" + ")".repeat(29), "1.(".repeat(28) + "1.x=1" + ")".repeat(28));
        dueForm("(1.".repeat(19) + "x=1" + ")*".repeat(19), "(1.".repeat(19) + "x=1" + ")*".repeat(19));
        dueForm("!(1+".repeat(19) + "x=1" + ")".repeat(19) + "+0", "!(1+".repeat(19) + "x=1" + ")".repeat(19) + "+0");
    }

    private static void kindsOfCombine() {
        Check.sentence("`kind`: 0 for the union, 1 for the sequence");
        PolicyCompiler x = Check.holding("x=1", "y:2");
        Check.due("combine(0, 0, 1, 2)", x.combine(0, 0, 1, 2), 3);
        Check.dueText("the union", Check.shown(x, 2), "x=1+y:2");
        Check.due("combine(1, 0, 1, 3)", x.combine(1, 0, 1, 3), 3);
        Check.dueText("the sequence", Check.shown(x, 3), "x=1.y:2");
        for (int kind : new int[] {-1, 2, 3, 256, 257, Integer.MIN_VALUE, Integer.MAX_VALUE}) {
            Check.due("combine(" + kind + ", 0, 1, 2)", x.combine(kind, 0, 1, 2), -2);
        }
        Check.due("errorCount(-2)", x.errorCount(-2), 7);
        Check.sentence("`b`: slot of the right operand");
        Check.due("combine(1, 1, 0, 3)", x.combine(1, 1, 0, 3), 3);
        Check.dueText("the other way round", Check.shown(x, 3), "y:2.x=1");
        for (int s = 0; s < 4; s++) {
            PolicyCompiler y = Check.holding("x=0", "x=1", "x=2", "x=3");
            Check.due("each slot with itself", y.combine(0, s, s, s), 3);
            Check.dueText("slot " + s, Check.shown(y, s), "x=" + s + "+x=" + s);
            y.combine(1, s, (s + 1) % 4, (s + 3) % 4);
            Check.dueText("each slot with the next", Check.shown(y, (s + 3) % 4),
                    "(x=" + s + "+x=" + s + ").x=" + (s + 1) % 4);
        }
    }

    private static void kindsOfModify() {
        Check.sentence("`kind`: 0 for the repetition, 1 for the negation");
        PolicyCompiler x = Check.holding("x=1");
        Check.due("modify(0, 0, 2)", x.modify(0, 0, 2), 2);
        Check.dueText("the repetition", Check.shown(x, 2), "x=1*");
        Check.due("modify(1, 0, 3)", x.modify(1, 0, 3), 2);
        Check.dueText("the negation", Check.shown(x, 3), "!x=1");
        for (int kind : new int[] {-1, 2, 3, 256, 257, Integer.MIN_VALUE, Integer.MAX_VALUE}) {
            Check.due("modify(" + kind + ", 0, 2)", x.modify(kind, 0, 2), -2);
        }
        Check.due("errorCount(-2)", x.errorCount(-2), 7);
        for (int s = 0; s < 4; s++) {
            PolicyCompiler y = Check.holding("x=0", "x=1", "x=2", "x=3");
            Check.due("each slot into itself", y.modify(1, s, s), 2);
            Check.due("each slot into the next", y.modify(0, s, (s + 1) % 4), 3);
            Check.dueText("slot " + s, Check.shown(y, s), "!x=" + s);
            Check.dueText("the next slot", Check.shown(y, (s + 1) % 4), "(!x=" + s + ")*");
            Check.dueText("the slot behind it", Check.shown(y, (s + 2) % 4), "x=" + (s + 2) % 4);
        }
    }

    private static void negationNeedsAPredicate() {
        Check.sentence("NOT_A_PREDICATE if kind is 1 and the operand is not a predicate;");
        String[] others = {"x:0", "1*", "x=0+x:0", "x:0.x=0", "[1?1|x:0]", "[1?x:0|1]"};
        String[] predicates = {"0", "1", "x=0", "!x=0", "x=0+x=1", "x=0.x=1", "[1?1|x=0]"};
        for (String text : others) {
            PolicyCompiler x = Check.holding(text);
            Check.due("negation of " + text, x.modify(1, 0, 1), -3);
            Check.due("errorCount(-3)", x.errorCount(-3), 1);
            Check.dueText("nothing changes", Check.shown(x, 1), "1");
            Check.that("repetition of " + text, x.modify(0, 0, 1) > 0);
            Check.due("no negation of a repetition", x.modify(1, 1, 1), -3);
            Check.due("only what succeeded is saved", x.undo(), 1);
        }
        for (String text : predicates) {
            PolicyCompiler x = Check.holding(text);
            Check.due("negation of " + text, x.modify(1, 0, 1), x.size(0) + 1);
            Check.due("negation of the negation", x.modify(1, 1, 1), x.size(0) + 2);
            Check.due("errorCount(-3)", x.errorCount(-3), 0);
        }
        PolicyCompiler x = Check.holding("1" + "*".repeat(59));
        Check.due("no predicate, and too large", x.modify(1, 0, 1), -3);
        Check.due("too large", x.modify(0, 0, 1), -4);
        Check.due("out of range, no predicate, and too large", x.modify(1, 0, 4), -2);
        Check.due("errorCount(-3)", x.errorCount(-3), 1);
    }

    private static void sizesFrom1To60() {
        Check.sentence("Returns the size, 1 to 60;");
        PolicyCompiler x = new PolicyCompiler();
        for (int size = 1; size <= 60; size++) {
            Check.due("size(0)", x.size(0), size);
            Check.due("modify(0, 0, 0)", x.modify(0, 0, 0), size < 60 ? size + 1 : -4);
        }
        Check.due("size(0)", x.size(0), 60);
    }

    private static void predicateOrNot() {
        Check.sentence("Returns 1 if it is, 0 if it is not;");
        PolicyCompiler x = Check.holding("x=0", "x:0");
        Check.due("isPredicate(0)", x.isPredicate(0), 1);
        Check.due("isPredicate(1)", x.isPredicate(1), 0);
        for (int kind = 0; kind <= 1; kind++) {
            x.combine(kind, 0, 0, 2);
            Check.due("two predicates", x.isPredicate(2), 1);
            x.combine(kind, 0, 1, 2);
            Check.due("a predicate and another", x.isPredicate(2), 0);
            x.combine(kind, 1, 0, 2);
            Check.due("another and a predicate", x.isPredicate(2), 0);
            x.combine(kind, 1, 1, 2);
            Check.due("two others", x.isPredicate(2), 0);
        }
        x.modify(0, 0, 2);
        Check.due("a repetition of a predicate", x.isPredicate(2), 0);
        x.modify(1, 0, 2);
        Check.due("a negation", x.isPredicate(2), 1);
        x.undo();
        Check.due("the repetition again", x.isPredicate(2), 0);
        for (int slot : new int[] {-1, 4, Integer.MIN_VALUE, Integer.MAX_VALUE}) {
            Check.due("isPredicate(" + slot + ")", x.isPredicate(slot), -2);
            Check.due("size(" + slot + ")", x.size(slot), -2);
        }
        Check.due("errorCount(-2)", x.errorCount(-2), 8);
    }
}
