/** Promises 10 to 16: outputs, accepted, spread, rounds, compare, witness, difference. */
public final class EvaluationTest {
    /** Turns each packet into its successor: z counts up and carries into y and x. */
    private static final String COUNT = "[z=3?z:0.[y=3?y:0.[x=0?x:1|[x=1?x:2|x:3]]|"
            + "[y=0?y:1|[y=1?y:2|y:3]]]|[z=0?z:1|[z=1?z:2|z:3]]]";

    public static void main(String[] args) {
        promise10Outputs();
        promise10OutputsOfRepetitions();
        promise10OutputsErrors();
        promise11Accepted();
        promise12Spread();
        promise13Rounds();
        promise14Compare();
        promise15Witness();
        promise16Difference();
        Check.end();
    }

    private static void dueOutputs(String text, int packet, int... outputs) {
        long want = 0;
        for (int q : outputs) {
            want |= 1L << q;
        }
        Check.due("outputs of " + text + " for " + packet, Check.holding(text).outputs(0, packet), want);
    }

    private static void promise10Outputs() {
        dueOutputs("0", 7);
        dueOutputs("1", 7, 7);
        dueOutputs("1", 63, 63);
        dueOutputs("x=1", 16, 16);
        dueOutputs("x=1", 31, 31);
        dueOutputs("x=1", 32);
        dueOutputs("y=2", 27, 27);
        dueOutputs("y=2", 28);
        dueOutputs("z=3", 27, 27);
        dueOutputs("z=3", 26);
        dueOutputs("x:3", 11, 59);
        dueOutputs("x:0", 59, 11);
        dueOutputs("y:1", 63, 55);
        dueOutputs("z:2", 0, 2);
        dueOutputs("z:2", 2, 2);
        dueOutputs("x:1+y:1", 0, 4, 16);
        dueOutputs("x:1+x:1", 0, 16);
        dueOutputs("x:1.y:1", 0, 20);
        dueOutputs("x:1.x:2", 0, 32);
        dueOutputs("x:1.x=2", 0);
        dueOutputs("x=2.x:1", 32, 16);
        dueOutputs("(x:1+x:2).(y:1+y:2)", 0, 20, 24, 36, 40);
        dueOutputs("(x:1+x:2).x=2", 0, 32);
        dueOutputs("!x=1", 16);
        dueOutputs("!x=1", 0, 0);
        dueOutputs("!0", 5, 5);
        dueOutputs("!1", 5);
        dueOutputs("[x=1?y:1|z:1]", 16, 20);
        dueOutputs("[x=1?y:1|z:1]", 0, 1);
        dueOutputs("[x=1?0|z:1]", 16);
        dueOutputs("[0?y:1|z:1]", 0, 1);
        dueOutputs("(x:0+x:1+x:2+x:3).z:3", 63, 15, 31, 47, 63);
    }

    private static void promise10OutputsOfRepetitions() {
        dueOutputs("0*", 9, 9);
        dueOutputs("1*", 9, 9);
        dueOutputs("x:1*", 9, 9, 25);
        dueOutputs("x:1*", 25, 25);
        dueOutputs("(x=0.x:1+x=1.x:2)*", 0, 0, 16, 32);
        dueOutputs("(x=0.x:1+x=1.x:2)*", 16, 16, 32);
        dueOutputs("(x=0.x:1+x=1.x:2)*", 48, 48);
        dueOutputs("(x=2.x:1+x=1.x:0)*.x=0", 32, 0);
        dueOutputs("(x=2.x:0+x=0.x:1)*", 32, 0, 16, 32);
        dueOutputs("(x=2.x:3+x=3.x:1)*", 47, 31, 47, 63);
        dueOutputs("x:1**", 0, 0, 16);
        dueOutputs("(x:1*.y:1)*", 0, 0, 4, 20);
        dueOutputs("(x:1+y:1)*", 0, 0, 4, 16, 20);
        PolicyCompiler x = Check.holding(COUNT);
        Check.due("the successor", x.outputs(0, 31), 1L << 32);
        Check.due("modify(0, 0, 1)", x.modify(0, 0, 1) > 0 ? 1 : 0, 1);
        Check.due("all from 0 on", x.outputs(1, 0), -1);
        Check.due("all from 48 on", x.outputs(1, 48), -1L << 48);
        Check.due("all from 63 on", x.outputs(1, 63), -1L << 48);
    }

    private static void promise10OutputsErrors() {
        PolicyCompiler x = Check.holding("(x:0+x:1+x:2+x:3).(y:0+y:1+y:2+y:3).(z:0+z:1+z:2+z:3)");
        Check.due("outputs(0, 0)", x.outputs(0, 0), -1);
        Check.due("outputs(-1, 0)", x.outputs(-1, 0), -2);
        Check.due("outputs(4, 0)", x.outputs(4, 0), -2);
        Check.due("outputs(0, -1)", x.outputs(0, -1), -2);
        Check.due("outputs(0, 64)", x.outputs(0, 64), -2);
        Check.due("outputs(0, min)", x.outputs(0, Integer.MIN_VALUE), -2);
        Check.due("errorCount(-2)", x.errorCount(-2), 5);
        // All but packet 0: the set equals OUT_OF_RANGE, and no error is counted.
        x.clearText();
        Check.parse(x, 1, "p.(!x=0+!y=0+!z=0)");
        Check.due("outputs(1, 9)", x.outputs(1, 9), -2);
        Check.due("errorCount(-2)", x.errorCount(-2), 5);
    }

    private static void promise11Accepted() {
        Check.due("accepted of 0", Check.holding("0").accepted(0), 0);
        Check.due("accepted of 1", Check.holding("1").accepted(0), -1);
        Check.due("accepted of x=3", Check.holding("x=3").accepted(0), -1L << 48);
        Check.due("accepted of x=0.y:1", Check.holding("x=0.y:1").accepted(0), 65535);
        Check.due("accepted of y:1.y=1", Check.holding("y:1.y=1").accepted(0), -1);
        Check.due("accepted of y:1.y=2", Check.holding("y:1.y=2").accepted(0), 0);
        Check.due("accepted of !x=0+...", Check.holding("!(x=0.y=0.z=0)").accepted(0), -2);
        Check.due("accepted of z=1", Check.holding("z=1").accepted(0), 0x2222222222222222L);
        PolicyCompiler x = new PolicyCompiler();
        Check.due("accepted(-1)", x.accepted(-1), -2);
        Check.due("accepted(4)", x.accepted(4), -2);
        Check.due("errorCount(-2)", x.errorCount(-2), 2);
    }

    private static void promise12Spread() {
        Check.due("spread of 0", Check.holding("0").spread(0), 0);
        Check.due("spread of 1", Check.holding("1").spread(0), 1);
        Check.due("spread of x:1", Check.holding("x:1").spread(0), 1);
        Check.due("spread of x:1+y:1", Check.holding("x:1+y:1").spread(0), 2);
        Check.due("spread at 0", Check.holding("x=0.y=0.z=0.(x:1+y:1+z:1)").spread(0), 3);
        Check.due("spread at 63", Check.holding("x=3.y=3.z=3.(x:1+y:1+z:1)").spread(0), 3);
        Check.due("spread of all", Check.holding(
                "(x:0+x:1+x:2+x:3).(y:0+y:1+y:2+y:3).(z:0+z:1+z:2+z:3)").spread(0), 64);
        PolicyCompiler x = new PolicyCompiler();
        Check.due("spread(-1)", x.spread(-1), -2);
        Check.due("spread(4)", x.spread(4), -2);
        Check.due("errorCount(-2)", x.errorCount(-2), 2);
    }

    private static void promise13Rounds() {
        Check.due("rounds of 0", Check.holding("0").rounds(0), 0);
        Check.due("rounds of x=1", Check.holding("x=1").rounds(0), 0);
        Check.due("rounds of x:1", Check.holding("x:1").rounds(0), 1);
        Check.due("rounds of x:1*", Check.holding("x:1*").rounds(0), 1);
        Check.due("rounds of x:1+y:1", Check.holding("x:1+y:1").rounds(0), 2);
        Check.due("rounds of x:1.y:1", Check.holding("x:1.y:1").rounds(0), 1);
        Check.due("rounds of a chain", Check.holding("x=0.x:1+x=1.x:2+x=2.x:3").rounds(0), 3);
        Check.due("rounds of a cycle", Check.holding("x=0.x:1+x=1.x:2+x=2.x:0").rounds(0), 2);
        Check.due("rounds of a fork", Check.holding("x=0.(x:1+x:2)+x=2.x:3").rounds(0), 2);
        Check.due("rounds of the first packet", Check.holding("x=0.y=0.z=0.x:1").rounds(0), 1);
        Check.due("rounds of the last packet", Check.holding("x=3.y=3.z=3.x:1").rounds(0), 1);
        Check.due("rounds of x:1+y:1+z:1", Check.holding("x:1+y:1+z:1").rounds(0), 3);
        PolicyCompiler x = Check.holding(COUNT.replace("[x=1?x:2|x:3]", "[x=1?x:2|q]"));
        Check.due("rounds of counting", x.rounds(0), 47);
        Check.parse(x, 1, "[x=2?x:3|x:0]");
        Check.due("counting around", Check.parse(x, 0, COUNT.replace("[x=1?x:2|x:3]", "[x=1?x:2|q]")), 32);
        Check.due("the greatest rounds", x.rounds(0), 63);
        Check.due("rounds(-1)", x.rounds(-1), -2);
        Check.due("rounds(4)", x.rounds(4), -2);
        Check.due("errorCount(-2)", x.errorCount(-2), 2);
    }

    /** A compiler whose slots 0 and 1 hold two policies. */
    private static PolicyCompiler pair(String a, String b) {
        PolicyCompiler x = Check.holding(a);
        Check.that("parse " + b, Check.parse(x, 1, b) > 0);
        return x;
    }

    private static void dueCompare(String a, String b, int want) {
        PolicyCompiler x = pair(a, b);
        Check.due("compare " + a + " to " + b, x.compare(0, 1), want);
        int turned = want == 1 ? 2 : want == 2 ? 1 : want;
        Check.due("compare " + b + " to " + a, x.compare(1, 0), turned);
        Check.due("compare " + a + " to itself", x.compare(0, 0), 0);
    }

    private static void promise14Compare() {
        dueCompare("x=1", "!!x=1", 0);
        dueCompare("x:1.x=1", "x:1", 0);
        dueCompare("0", "x=1.x=2", 0);
        dueCompare("x=1+y=1", "y=1+x=1", 0);
        dueCompare("x=1", "x=1+y=1", 1);
        dueCompare("0", "1", 1);
        dueCompare("x:1", "x:1*", 1);
        dueCompare("x:1+y:1", "y:1", 2);
        dueCompare("x=0.y=0.z=0", "0", 2);
        dueCompare("x=3.y=3.z=3", "0", 2);
        dueCompare("x=1", "y=1", 3);
        dueCompare("x:1", "x:2", 3);
        dueCompare("x=0.y:1", "x=3.y:1", 3);
        dueCompare("x=3.y=3.z=3.x:0", "x=3.y=3.z=3.x:1", 3);
        PolicyCompiler x = new PolicyCompiler();
        Check.due("compare(-1, 0)", x.compare(-1, 0), -2);
        Check.due("compare(4, 0)", x.compare(4, 0), -2);
        Check.due("compare(0, -1)", x.compare(0, -1), -2);
        Check.due("compare(0, 4)", x.compare(0, 4), -2);
        Check.due("errorCount(-2)", x.errorCount(-2), 4);
    }

    private static void dueWitness(String a, String b, int witness, int difference) {
        PolicyCompiler x = pair(a, b);
        Check.due("witness of " + a + " and " + b, x.witness(0, 1), witness);
        Check.due("witness of " + b + " and " + a, x.witness(1, 0), witness);
        Check.due("difference of " + a + " and " + b, x.difference(0, 1), difference);
        Check.due("difference of " + b + " and " + a, x.difference(1, 0), difference);
    }

    private static void promise15Witness() {
        dueWitness("0", "1", 0, 0);
        dueWitness("1", "1+y=2", -1, -1);
        dueWitness("x=1", "x=2", 16, 16);
        dueWitness("x=3.y=3.z=3", "0", 63, 63);
        PolicyCompiler x = new PolicyCompiler();
        Check.due("witness(2, 2)", x.witness(2, 2), -1);
        Check.due("witness(-1, 0)", x.witness(-1, 0), -2);
        Check.due("witness(4, 0)", x.witness(4, 0), -2);
        Check.due("witness(0, -1)", x.witness(0, -1), -2);
        Check.due("witness(0, 4)", x.witness(0, 4), -2);
        Check.due("errorCount(-2)", x.errorCount(-2), 4);
    }

    private static void promise16Difference() {
        dueWitness("x:1+y:1", "x:1+y:2", 0, 4);
        dueWitness("x:1+y:1", "x:1+y:1+z:1", 0, 1);
        dueWitness("x=3.x:0", "x=3.x:1", 48, 0);
        dueWitness("x=2.(x:0+x:3)", "x=2.(x:0+x:1)", 32, 16);
        dueWitness("x:3.y:3.z:3+1", "1", 0, 63);
        PolicyCompiler x = new PolicyCompiler();
        Check.due("difference(1, 1)", x.difference(1, 1), -1);
        Check.due("difference(-1, 0)", x.difference(-1, 0), -2);
        Check.due("difference(4, 0)", x.difference(4, 0), -2);
        Check.due("difference(0, -1)", x.difference(0, -1), -2);
        Check.due("difference(0, 4)", x.difference(0, 4), -2);
        Check.due("errorCount(-2)", x.errorCount(-2), 4);
    }
}
