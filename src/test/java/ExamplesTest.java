/** The five examples of the document, call by call. */
public final class ExamplesTest {
    public static void main(String[] args) {
        testAndAssignment();
        doubleNegation();
        repetition();
        twoAssignments();
        errors();
        Check.end();
    }

    private static void testAndAssignment() {
        PolicyCompiler x = new PolicyCompiler();
        Check.due("1: clearText()", x.clearText(), 0);
        Check.due("1: append(120)", x.append(120), 1);
        Check.due("1: append(61)", x.append(61), 2);
        Check.due("1: append(49)", x.append(49), 3);
        Check.due("1: append(46)", x.append(46), 4);
        Check.due("1: append(121)", x.append(121), 5);
        Check.due("1: append(58)", x.append(58), 6);
        Check.due("1: append(50)", x.append(50), 7);
        Check.due("1: parse(0)", x.parse(0), 3);
        Check.due("1: size(0)", x.size(0), 3);
        Check.due("1: outputs(0, 16)", x.outputs(0, 16), 16777216L);
        Check.due("1: rows(0)", x.rows(0), 2);
        Check.due("1: match(0, 0, 0)", x.match(0, 0, 0), 1);
        Check.due("1: action(0, 0, 0)", x.action(0, 0, 0), 124);
    }

    private static void doubleNegation() {
        PolicyCompiler x = new PolicyCompiler();
        Check.due("2: clearText()", x.clearText(), 0);
        Check.due("2: append(120)", x.append(120), 1);
        Check.due("2: append(61)", x.append(61), 2);
        Check.due("2: append(49)", x.append(49), 3);
        Check.due("2: parse(0)", x.parse(0), 1);
        Check.due("2: clearText()", x.clearText(), 3);
        Check.due("2: append(33)", x.append(33), 1);
        Check.due("2: append(33)", x.append(33), 2);
        Check.due("2: append(112)", x.append(112), 3);
        Check.due("2: parse(1)", x.parse(1), 3);
        Check.due("2: compare(0, 1)", x.compare(0, 1), 0);
        Check.due("2: diagramSize(0)", x.diagramSize(0), 3);
        Check.due("2: sharedNodes(0, 1)", x.sharedNodes(0, 1), 3);
    }

    private static void repetition() {
        PolicyCompiler x = new PolicyCompiler();
        Check.due("3: clearText()", x.clearText(), 0);
        Check.due("3: append(40)", x.append(40), 1);
        Check.due("3: append(120)", x.append(120), 2);
        Check.due("3: append(61)", x.append(61), 3);
        Check.due("3: append(48)", x.append(48), 4);
        Check.due("3: append(46)", x.append(46), 5);
        Check.due("3: append(120)", x.append(120), 6);
        Check.due("3: append(58)", x.append(58), 7);
        Check.due("3: append(49)", x.append(49), 8);
        Check.due("3: append(41)", x.append(41), 9);
        Check.due("3: append(42)", x.append(42), 10);
        Check.due("3: parse(0)", x.parse(0), 4);
        Check.due("3: rounds(0)", x.rounds(0), 1);
        Check.due("3: outputs(0, 0)", x.outputs(0, 0), 65537);
        Check.due("3: spread(0)", x.spread(0), 2);
    }

    private static void twoAssignments() {
        PolicyCompiler x = new PolicyCompiler();
        Check.due("4: clearText()", x.clearText(), 0);
        Check.due("4: append(120)", x.append(120), 1);
        Check.due("4: append(58)", x.append(58), 2);
        Check.due("4: append(49)", x.append(49), 3);
        Check.due("4: parse(0)", x.parse(0), 1);
        Check.due("4: clearText()", x.clearText(), 3);
        Check.due("4: append(121)", x.append(121), 1);
        Check.due("4: append(58)", x.append(58), 2);
        Check.due("4: append(49)", x.append(49), 3);
        Check.due("4: parse(1)", x.parse(1), 1);
        Check.due("4: compare(0, 1)", x.compare(0, 1), 3);
        Check.due("4: witness(0, 1)", x.witness(0, 1), 0);
        Check.due("4: difference(0, 1)", x.difference(0, 1), 4);
    }

    private static void errors() {
        PolicyCompiler x = new PolicyCompiler();
        Check.due("5: clearText()", x.clearText(), 0);
        Check.due("5: append(33)", x.append(33), 1);
        Check.due("5: append(120)", x.append(120), 2);
        Check.due("5: append(58)", x.append(58), 3);
        Check.due("5: append(49)", x.append(49), 4);
        Check.due("5: parse(0)", x.parse(0), -11);
        Check.due("5: clearText()", x.clearText(), 4);
        Check.due("5: append(120)", x.append(120), 1);
        Check.due("5: append(61)", x.append(61), 2);
        Check.due("5: append(52)", x.append(52), 3);
        Check.due("5: parse(0)", x.parse(0), -12);
        Check.due("5: modify(1, 0, 4)", x.modify(1, 0, 4), -2);
    }
}
