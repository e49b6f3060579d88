/** The walk through "Policy text" and "Printed form". */
final class TextWalk {
    /** A policy of each kind; NAMES says which one. */
    private static final String[] OPERANDS = {"0", "1", "x=1", "y:2", "x=0+y=1", "x=0.y=1", "z:3*", "!z=3",
        "[x=1?y=2|z=3]"};
    private static final String KINDS = "01=:+.*!?";

    private TextWalk() {
    }

    static void walk() {
        length();
        unions();
        sequences();
        factors();
        atoms();
        brackets();
        letters();
        grouping();
        errorPositions();
        predicateErrors();
        printedForm();
        unionParentheses();
        sequenceParentheses();
        repetitionParentheses();
        negationParentheses();
        noLetters();
    }

    private static void dueParse(String text, int want) {
        Check.due("parse of " + text, Check.parsed(text), want);
    }

    private static void length() {
        Walk.free("Policy text.");
        Walk.next("The text has at most 150 bytes and is one policy, without spaces.");
        PolicyCompiler x = new PolicyCompiler();
        Check.type(x, "(".repeat(73) + "y:3" + ")".repeat(73) + "*");
        Script.run(x, "append(42) = -5; parse(0) = 2; append(42) = -5; clearText() = 150");
        dueParse("", -10);
        dueParse("x=1y=1", -13);
        dueParse(" x=1", -10);
        dueParse("x =1", -11);
        dueParse("x=1 +0", -13);
        dueParse("x=1+ 0", -14);
        dueParse("x=1 ", -13);
        Walk.free("The grammar is:");
    }

    private static void unions() {
        Walk.next("a union is one or more sequences, separated by + ;");
        dueParse("1", 1);
        dueParse("0.1", 3);
        dueParse("1+0", 3);
        dueParse("1.0+0.1+1", 9);
        dueParse("+1", -10);
        dueParse("1+", -12);
        dueParse("1++1", -12);
        dueParse("1+.1", -12);
    }

    private static void sequences() {
        Walk.next("a sequence is one or more factors, separated by a dot;");
        dueParse("!1", 2);
        dueParse("1.0", 3);
        dueParse("1*.!0.x:1", 7);
        dueParse(".1", -10);
        dueParse("1.", -12);
        dueParse("1..1", -12);
        dueParse("1.+1", -12);
        dueParse("1*1", -12);
        dueParse("1!1", -11);
        // The sequence is part of the union, not the union part of the sequence.
        Script.holding("outputs(0, 16) = 65536; outputs(0, 0) = 0; outputs(0, 1) = 2", "x=1+x=0.z=1");
        Script.holding("outputs(0, 16) = 0; outputs(0, 17) = 131072", "(x=1+x=0).z=1");
    }

    private static void factors() {
        Walk.next("a factor is ! followed by a factor, or an atom followed by zero or more * ;");
        dueParse("!1", 2);
        dueParse("!!!x=2", 4);
        dueParse("1*", 2);
        dueParse("z:1***", 4);
        dueParse("!", -11);
        dueParse("*", -10);
        dueParse("!*", -11);
        dueParse("1!", -11);
        dueParse("x*", -11);
        dueParse("!x=1*", -11);
        dueParse("(!x=1)*", 3);
        // ! reaches to the end of its factor, not to that of the sequence.
        Script.holding("outputs(0, 0) = 0; outputs(0, 1) = 0; outputs(0, 17) = 131072", "!x=0.z=1");
        Script.holding("outputs(0, 0) = 1; outputs(0, 1) = 0; outputs(0, 17) = 131072", "!(x=0.z=1)");
        // * belongs to the atom alone.
        Script.holding("outputs(0, 0) = 0; outputs(0, 16) = 1114112", "x=1.y:1*");
        Script.holding("outputs(0, 0) = 1; outputs(0, 16) = 1114112", "(x=1.y:1)*");
    }

    private static void atoms() {
        Walk.next("an atom is 0, or 1, or a field letter (x, y or z) followed by = or : and a digit from 0 to 3,");
        for (String field : new String[] {"x", "y", "z"}) {
            for (String sign : new String[] {"=", ":"}) {
                for (int v = 0; v < 4; v++) {
                    Check.dueText("printed", Check.shown(Check.holding(field + sign + v), 0), field + sign + v);
                }
                dueParse(field + sign, -12);
                dueParse(field + sign + "/", -12);
                dueParse(field + sign + "4", -12);
                dueParse(field + sign + "x", -12);
                dueParse(field + sign + "33", -13);
            }
            dueParse(field, -11);
            dueParse(field + "1", -11);
            dueParse(field + ";0", -11);
            dueParse(field + "<0", -11);
            dueParse(field + ">0", -11);
        }
        dueParse("0", 1);
        dueParse("1", 1);
        dueParse("2", -10);
        dueParse("/", -10);
        dueParse("w=0", -10);
        dueParse("{=0", -10);
        dueParse("X=0", -10);
    }

    private static void brackets() {
        Walk.next("or a union in parentheses,");
        dueParse("(1)", 1);
        dueParse("((1+0))", 3);
        dueParse("(1", -12);
        dueParse("1)", -11);
        dueParse("()", -11);
        dueParse("(1]", -12);
        dueParse("(1?1|1)", -12);
        Walk.next("or a choice [union?union|union],");
        dueParse("[1?0|1]", 4);
        dueParse("[1+0?0.1|1*+0]", 11);
        dueParse("[[1?0|1]?[1?0|1]|[1?0|1]]*", 14);
        dueParse("[1]", -12);
        dueParse("[1?0]", -14);
        dueParse("[1|0?1]", -12);
        dueParse("[?1|1]", -11);
        dueParse("[1?|1]", -13);
        dueParse("[1?1|]", -15);
        dueParse("[1?1|1)", -16);
        dueParse("[1?1|1|1]", -16);
        dueParse("1?1|1", -11);
    }

    private static void letters() {
        Walk.next("or one of the letters p, q, r and s, which stands for the policy that the slot 0, 1, 2 or 3 holds "
                + "when the text is parsed.");
        PolicyCompiler x = Check.holding("x=0", "x=1+y=1", "x:2", "x=3");
        Check.due("parse of !p+q*.r+(s)", Check.parse(x, 0, "!p+q*.r+(s)"), 11);
        Check.dueText("slot 0", Check.shown(x, 0), "!x=0+(x=1+y=1)*.x:2+x=3");
        Check.due("parse of 1", Check.parse(x, 3, "1"), 1);
        Check.dueText("slot 0 stays", Check.shown(x, 0), "!x=0+(x=1+y=1)*.x:2+x=3");
        Check.due("parse of s.q", Check.parse(x, 1, "s.q"), 5);
        Check.dueText("slot 1", Check.shown(x, 1), "1.(x=1+y=1)");
        Check.due("the same text again", x.parse(1), 7);
        Check.dueText("slot 1", Check.shown(x, 1), "1.(1.(x=1+y=1))");
        Check.due("!r is no negation of a predicate", Check.parse(x, 2, "!r"), -11);
        dueParse("o", -10);
        dueParse("t", -10);
        dueParse("pq", -11);
        dueParse("p=1", -11);
    }

    private static void grouping() {
        Walk.next("Unions and sequences of more than two operands group to the left: a+b+c is (a+b)+c.");
        PolicyCompiler x = Check.holding("x=0", "x=1", "x=2");
        Script.run(x, "combine(0, 0, 1, 3) = 3; combine(0, 3, 2, 3) = 5");
        Check.dueText("(a+b)+c", Check.shown(x, 3), "x=0+x=1+x=2");
        Script.run(x, "combine(0, 1, 2, 3) = 3; combine(0, 0, 3, 3) = 5");
        Check.dueText("a+(b+c)", Check.shown(x, 3), "x=0+(x=1+x=2)");
        Script.run(x, "combine(1, 0, 1, 3) = 3; combine(1, 3, 2, 3) = 5");
        Check.dueText("(a.b).c", Check.shown(x, 3), "x=0.x=1.x=2");
        Script.run(x, "combine(1, 1, 2, 3) = 3; combine(1, 0, 3, 3) = 5");
        Check.dueText("a.(b.c)", Check.shown(x, 3), "x=0.(x=1.x=2)");
        for (String text : new String[] {"x=0+x=1+x=2", "x=0+(x=1+x=2)", "x=0.x=1.x=2", "x=0.(x=1.x=2)",
            "x=0+x=1+x=2+x=3", "x=0+(x=1+x=2)+x=3", "x=0+(x=1+(x=2+x=3))"}) {
            Check.dueText("printed", Check.shown(Check.holding(text), 0), text);
        }
        Check.dueText("printed", Check.shown(Check.holding("((x=0+x=1)+x=2)+x=3"), 0), "x=0+x=1+x=2+x=3");
    }

    private static void errorPositions() {
        Walk.next("The syntax error position is the index of the first byte that cannot stand where it stands, or the "
                + "length of the text if it ends too early.");
        String whole = "[x=1+!p.y=2?(z:3.q)*|s]";
        dueParse(whole, 12);
        // Cut off anywhere it ends too early; with a byte that stands nowhere, the error is there.
        for (int at = 0; at < whole.length(); at++) {
            dueParse(whole.substring(0, at), -10 - at);
            dueParse(whole.substring(0, at) + "#" + whole.substring(at), -10 - at);
        }
        dueParse(whole + "#", -10 - whole.length());
        dueParse("1#2#", -11);
        dueParse("x=1+", -14);
    }

    private static void predicateErrors() {
        Walk.next("If the operand of a negation or the c of a choice is not a predicate, the syntax error position is "
                + "the index of the first byte of this operand or c,");
        dueParse("!x:1", -11);
        dueParse("!(x:1)", -11);
        dueParse("!1*", -11);
        dueParse("1+!x=1*", -13);
        dueParse("![1?x:1|1]", -11);
        dueParse("!!x:1", -12);
        dueParse("1.!(1+!x:1)", -17);
        dueParse("[x:1?1|1]", -11);
        dueParse("[x=1.x:1?1|1]", -11);
        dueParse("[1?1|[y=1+x:1?1|1]]", -16);
        Walk.next("provided that the operand or c itself (up to its last byte) has no error;");
        dueParse("!x:", -13);
        dueParse("!x:4", -13);
        dueParse("!(x:1", -15);
        dueParse("!(x:1+)", -16);
        dueParse("![1?x:1|1", -19);
        dueParse("[x:1+", -15);
        dueParse("[x:1+?1|1]", -15);
        dueParse("[(x:1?1|1]", -15);
        Walk.next("this error is found before any later error.");
        dueParse("!x:1)", -11);
        dueParse("!x:1+", -11);
        dueParse("!x:1#", -11);
        dueParse("[x:1", -11);
        dueParse("[x:1]", -11);
        dueParse("[x:1#", -11);
        dueParse("[x:1?#", -11);
        dueParse("[x:1?!y:1|1]", -11);
        dueParse("!x:1.[y:1?1|1]", -11);
        // An error that stands before it is found before it.
        dueParse("1#!x:1", -11);
        dueParse("(1+)[x:1?1|1]", -13);
    }

    /** Notes whether an operand stands in parentheses exactly if it is of one of these kinds. */
    private static void dueParentheses(String before, String behind, String kinds, String operands) {
        for (int k = 0; k < OPERANDS.length; k++) {
            if (operands.indexOf(KINDS.charAt(k)) >= 0) {
                String wrapped = before + "(" + OPERANDS[k] + ")" + behind;
                boolean needed = kinds.indexOf(KINDS.charAt(k)) >= 0;
                String form = needed ? wrapped : before + OPERANDS[k] + behind;
                PolicyCompiler x = Check.holding(wrapped);
                Check.dueText("printed form of " + wrapped, Check.shown(x, 0), form);
                Check.due("its length", x.printed(0, -1), form.length());
                int size = x.size(0);
                Check.due("parse of " + form, Check.parse(x, 1, form), size);
                Check.dueText("printed form of " + form, Check.shown(x, 1), form);
            }
        }
    }

    private static void printedForm() {
        Walk.free("Printed form.");
        Walk.next("The printed form of a policy has parentheses only where they are needed:");
        for (String operand : OPERANDS) {
            Check.dueText("printed", Check.shown(Check.holding("((" + operand + "))"), 0), operand);
        }
        dueParentheses("[x=1?", "|1]", "", KINDS);
        dueParentheses("[x=1?1|", "]", "", KINDS);
        dueParentheses("[", "?1|1]", "", "01=+.!");
    }

    private static void unionParentheses() {
        Walk.next("around the right operand of a union if it is a union;");
        dueParentheses("x=1+", "", "+", KINDS);
        dueParentheses("", "+x=1", "", KINDS);
    }

    private static void sequenceParentheses() {
        Walk.next("around the left operand of a sequence if it is a union;");
        dueParentheses("", ".x=1", "+", KINDS);
        Walk.next("around the right operand of a sequence if it is a union or a sequence;");
        dueParentheses("x=1.", "", "+.", KINDS);
    }

    private static void repetitionParentheses() {
        Walk.next("around the operand of a repetition if it is a union, a sequence or a negation;");
        dueParentheses("", "*", "+.!", KINDS);
    }

    private static void negationParentheses() {
        Walk.next("around the operand of a negation if it is a union or a sequence.");
        dueParentheses("!", "", "+.", "01=+.!?");
    }

    private static void noLetters() {
        Walk.next("(Letters of slots do not occur in it.)");
        PolicyCompiler x = Check.holding("x=0+x=1", "y:1.y:2", "[x=1?y=2|z=3]");
        Check.due("parse", Check.parse(x, 3, "p+q.r*+[p?q|r]+s"), 27);
        Check.dueText("printed", Check.shown(x, 3),
                "x=0+x=1+y:1.y:2.[x=1?y=2|z=3]*+[x=0+x=1?y:1.y:2|[x=1?y=2|z=3]]+1");
    }
}
