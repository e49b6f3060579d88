/** The edges of promises 10 to 16. */
public final class EvaluationBoundsTest {
    private static final String EVERYTHING =
            "(x:0+x:1+x:2+x:3).(y:0+y:1+y:2+y:3).(z:0+z:1+z:2+z:3)";
    private static final int[] NO_SLOTS = {-1, 4, 5, 64, -4, Integer.MIN_VALUE, Integer.MAX_VALUE};
    private static final int[] NO_PACKETS = {-1, 64, 65, 127, 128, -64, 1 << 26, Integer.MIN_VALUE,
        Integer.MAX_VALUE};

    public static void main(String[] args) {
        setsThatEqualErrorCodes();
        acceptedSetsThatEqualErrorCodes();
        emptyAndFullSets();
        outputsOutOfRange();
        acceptedOutOfRange();
        spreadFrom0To64();
        roundsOfNone();
        roundsFrom0To63();
        roundsAreTheLeast();
        compareOfEquals();
        compareByOnePacket();
        compareOfNeither();
        witnessOfEachPacket();
        differenceOfEachPacket();
        noWitness();
        oneOfBothSetsOnly();
        slotsOutOfRange();
        Check.end();
    }

    private static String packet(int p) {
        return "x=" + p / 16 + ".y=" + p / 4 % 4 + ".z=" + p % 4;
    }

    private static String assigned(int p) {
        return "x:" + p / 16 + ".y:" + p / 4 % 4 + ".z:" + p % 4;
    }

    /** Policies that turn each packet into the set that is written as this number. */
    private static String toSet(int code) {
        switch (code) {
            case -1: return EVERYTHING;
            case -2: return EVERYTHING + ".!(x=0.y=0.z=0)";
            case -3: return EVERYTHING + ".!(x=0.y=0.z=1)";
            case -4: return EVERYTHING + ".!(x=0.y=0.(z=0+z=1))";
            case -5: return EVERYTHING + ".!(x=0.y=0.z=2)";
            case -6: return EVERYTHING + ".!(x=0.y=0.(z=0+z=2))";
            default: return EVERYTHING + ".!(x=0.y=0.(z=1+z=2))";
        }
    }

    private static void dueNoErrors(PolicyCompiler x) {
        for (int code = -6; code <= -2; code++) {
            Check.due("errorCount(" + code + ")", x.errorCount(code), 0);
        }
    }

    private static void setsThatEqualErrorCodes() {
        Check.sentence("Returns the set of packets (it can equal an error code); OUT_OF_RANGE if an "
                + "argument is out of range.");
        for (int code = -1; code >= -7; code--) {
            PolicyCompiler x = Check.holding(toSet(code));
            for (int p = 0; p < 64; p++) {
                Check.due("outputs(0, " + p + ")", x.outputs(0, p), code);
            }
            dueNoErrors(x);
        }
    }

    private static void acceptedSetsThatEqualErrorCodes() {
        Check.sentence("Returns the set of packets (it can equal an error code); OUT_OF_RANGE if slot is "
                + "out of range.");
        String[] tests = {"1", "!(x=0.y=0.z=0)", "!(x=0.y=0.z=1)", "!(x=0.y=0.(z=0+z=1))", "!(x=0.y=0.z=2)",
            "!(x=0.y=0.(z=0+z=2))", "!(x=0.y=0.(z=1+z=2))"};
        for (int code = -1; code >= -7; code--) {
            PolicyCompiler x = Check.holding(tests[-1 - code], tests[-1 - code] + ".x:1");
            Check.due("accepted(0)", x.accepted(0), code);
            Check.due("accepted(1)", x.accepted(1), code);
            dueNoErrors(x);
        }
    }

    private static void emptyAndFullSets() {
        Check.sentence("Returns the set of packets which a policy does not turn into the empty set.");
        for (String text : new String[] {"0", "0.1", "x=1.x=2", "x:1.x=2", "!1", "[1?0|1]", EVERYTHING + ".0"}) {
            PolicyCompiler x = Check.holding(text);
            Check.due("accepted of " + text, x.accepted(0), 0);
            Check.due("outputs of " + text, x.outputs(0, 0) | x.outputs(0, 63), 0);
            Check.due("spread of " + text, x.spread(0), 0);
        }
        for (String text : new String[] {"1", "0*", "x:0", "!0", "[0?0|1]", EVERYTHING, "x=0+!x=0"}) {
            Check.due("accepted of " + text, Check.holding(text).accepted(0), -1);
        }
        // All packets but one, and one packet alone.
        for (int p : new int[] {0, 1, 31, 32, 62, 63}) {
            PolicyCompiler x = Check.holding(packet(p) + ".y:1", "!(" + packet(p) + ").y:1");
            Check.due("accepted of packet " + p, x.accepted(0), 1L << p);
            Check.due("accepted of all but " + p, x.accepted(1), ~(1L << p));
        }
    }

    private static void outputsOutOfRange() {
        Check.sentence("Returns the set of packets (it can equal an error code); OUT_OF_RANGE if an "
                + "argument is out of range.");
        PolicyCompiler x = Check.holding(EVERYTHING);
        int errors = 0;
        for (int packet : NO_PACKETS) {
            Check.due("outputs(0, " + packet + ")", x.outputs(0, packet), -2);
            errors++;
        }
        for (int slot : NO_SLOTS) {
            Check.due("outputs(" + slot + ", 0)", x.outputs(slot, 0), -2);
            Check.due("outputs(" + slot + ", 64)", x.outputs(slot, 64), -2);
            errors += 2;
        }
        Check.due("errorCount(-2)", x.errorCount(-2), errors);
        Check.due("outputs(0, 0)", x.outputs(0, 0), -1);
        Check.due("outputs(3, 63)", x.outputs(3, 63), Long.MIN_VALUE);
        Check.due("errorCount(-2)", x.errorCount(-2), errors);
    }

    private static void acceptedOutOfRange() {
        Check.sentence("OUT_OF_RANGE if slot is out of range.");
        PolicyCompiler x = Check.holding(EVERYTHING);
        for (int slot : NO_SLOTS) {
            Check.due("accepted(" + slot + ")", x.accepted(slot), -2);
            Check.due("spread(" + slot + ")", x.spread(slot), -2);
            Check.due("rounds(" + slot + ")", x.rounds(slot), -2);
        }
        Check.due("errorCount(-2)", x.errorCount(-2), 3 * NO_SLOTS.length);
        Check.due("accepted(3)", x.accepted(3), -1);
    }

    private static void spreadFrom0To64() {
        Check.sentence("Returns the greatest number, 0 to 64;");
        for (int p : new int[] {0, 31, 32, 63}) {
            PolicyCompiler x = Check.holding(packet(p), EVERYTHING, "0", packet(p) + ".0");
            Check.due("a single packet", x.spread(0), 1);
            Check.due("all packets", x.spread(1), 64);
            Check.due("none", x.spread(2), 0);
            Check.due("none", x.spread(3), 0);
            // Only one packet has so many, all others have none.
            Check.due("parse", Check.parse(x, 2, "p.q"), 29);
            Check.due("all packets for one", x.spread(2), 64);
            Check.due("parse", Check.parse(x, 2, "p.q.!p"), 36);
            Check.due("all packets but one", x.spread(2), 63);
            Check.due("parse", Check.parse(x, 3, "p.(x:0+x:1+x:2+x:3)+!p.(y:0+y:1)"), 24);
            Check.due("four for one, two for the others", x.spread(3), 4);
            Check.due("parse", Check.parse(x, 3, "!p.(x:0+x:1+x:2+x:3)+p.(y:0+y:1)"), 24);
            Check.due("two for one, four for the others", x.spread(3), 4);
        }
        Check.due("the same packet twice", Check.holding("x:1+x:1+x:1.y:0*").spread(0), 2);
    }

    private static void roundsOfNone() {
        Check.sentence("Returns the number of rounds, 0 to 63;");
        for (String text : new String[] {"0", "1", "x=1", "!x=1", "0*", "1*", "x=1.x:1", "0.x:1",
            "[x=2?x:2|1]", "x=0+y=3*"}) {
            Check.due("rounds of " + text, Check.holding(text).rounds(0), 0);
        }
    }

    /** Turns packet p into p + 1 for each p of those from 0 to last. */
    private static PolicyCompiler counting(int last, String around) {
        String y = "[y=0?y:1|[y=1?y:2|y:3]]";
        String x = "[x=0?x:1|[x=1?x:2|x:3]]";
        String z = "[z=0?z:1|[z=1?z:2|z:3]]";
        PolicyCompiler c = new PolicyCompiler();
        Check.that("parse", Check.parse(c, 0, "[z=3?z:0.[y=3?y:0." + x + "|" + y + "]|" + z + "]") > 0);
        Check.that("parse", Check.parse(c, 1, packet(last)) > 0);
        Check.that("parse", Check.parse(c, 2, "[q?" + around + "|p]") > 0);
        return c;
    }

    private static void roundsFrom0To63() {
        Check.sentence("the least n such that each packet that can be reached from a packet in any number "
                + "of steps can be reached from it in at most n steps.");
        // From packet 0 up to 'last' and from there nowhere: 'last' steps, or those behind 'last'.
        for (int last : new int[] {32, 33, 47, 48, 61, 62, 63}) {
            Check.due("rounds up to " + last, counting(last, "0").rounds(2), Math.max(last, 62 - last));
        }
        // From packet 63 back to the first: a cycle of all packets takes 63 steps.
        Check.due("rounds of a cycle", counting(63, "x:0.y:0.z:0").rounds(2), 63);
        Check.due("rounds of a cycle to itself", counting(63, "(x:0.y:0.z:0+1)").rounds(2), 63);
        // From packet 63 everywhere: back to 62 in one step.
        Check.due("rounds up to 63 and back", counting(63, "x:3.y:3.z:2").rounds(2), 63);
        Check.due("one step to each", Check.holding(EVERYTHING).rounds(0), 1);
        Check.due("one step", Check.holding("x=3.y=3.z=3.x:0").rounds(0), 1);
        Check.due("one step", Check.holding("x=0.y=0.z=0.z:1").rounds(0), 1);
        Check.due("two steps", Check.holding("x=0.y=0.z=0.z:1+x=0.y=0.z=1.z:2").rounds(0), 2);
        Check.due("three steps", Check.holding("x=0.x:1+x=1.x:2+x=2.x:3").rounds(0), 3);
    }

    private static void roundsAreTheLeast() {
        Check.sentence("the least n such that each packet that can be reached from a packet in any number "
                + "of steps can be reached from it in at most n steps.");
        Check.due("a long way and a short one", Check.holding("x=0.x:1+x=1.x:2+x=2.x:3+x=0.x:3").rounds(0), 2);
        Check.due("the repetition itself", Check.holding("(x=0.x:1+x=1.x:2+x=2.x:3)*").rounds(0), 1);
        Check.due("steps that stay", Check.holding("x=0.(x:1+1)+x=1.(x:2+1)").rounds(0), 2);
        PolicyCompiler x = counting(63, "0");
        x.modify(0, 2, 2);
        Check.due("the repetition of counting", x.rounds(2), 1);
    }

    private static void compareOfEquals() {
        Check.sentence("Returns 0 if both turn each packet into equal sets;");
        PolicyCompiler x = Check.holding("x=1.y:2+0", "x=1.y:2", "0", "y=1.y=2");
        for (int s = 0; s < 4; s++) {
            Check.due("compare(" + s + ", " + s + ")", x.compare(s, s), 0);
        }
        Check.due("compare(0, 1)", x.compare(0, 1), 0);
        Check.due("compare(1, 0)", x.compare(1, 0), 0);
        Check.due("two empty ones", x.compare(2, 3), 0);
        PolicyCompiler y = Check.holding(EVERYTHING, "p.p", "p*");
        Check.parse(y, 1, "p.p");
        Check.parse(y, 2, "p*");
        Check.due("two full ones", y.compare(0, 1), 0);
        Check.due("two full ones", y.compare(0, 2), 0);
    }

    private static void compareByOnePacket() {
        Check.sentence("otherwise 1 if for each packet the set of a is a subset of that of b, 2 if for each "
                + "packet the set of b is a subset of that of a, 3 if neither holds;");
        for (int p : new int[] {0, 1, 31, 32, 62, 63}) {
            PolicyCompiler x = Check.holding("!(" + packet(p) + ")", "1", "0", packet(p));
            Check.due("all but one, and all", x.compare(0, 1), 1);
            Check.due("all, and all but one", x.compare(1, 0), 2);
            Check.due("none, and one", x.compare(2, 3), 1);
            Check.due("one, and none", x.compare(3, 2), 2);
            Check.due("all but one, and the one", x.compare(0, 3), 3);
            Check.due("the one, and all but one", x.compare(3, 0), 3);
            Check.due("none, and all", x.compare(2, 1), 1);
            Check.due("all, and none", x.compare(1, 2), 2);
        }
        for (int q : new int[] {0, 1, 31, 32, 62, 63}) {
            PolicyCompiler x = Check.holding(EVERYTHING, packet(q));
            Check.parse(x, 2, "p.!q");
            Check.parse(x, 3, "p.q");
            Check.due("one output less", x.compare(2, 0), 1);
            Check.due("one output more", x.compare(0, 2), 2);
            Check.due("one output", x.compare(3, 0), 1);
            Check.due("the one, and the others", x.compare(3, 2), 3);
        }
    }

    private static void compareOfNeither() {
        Check.sentence("otherwise 1 if for each packet the set of a is a subset of that of b, 2 if for each "
                + "packet the set of b is a subset of that of a, 3 if neither holds;");
        // More at one packet and less at another one, in both orders.
        PolicyCompiler x = Check.holding(packet(0), packet(63), packet(0) + "+x=1", packet(63) + "+x=1");
        Check.due("compare(0, 1)", x.compare(0, 1), 3);
        Check.due("compare(1, 0)", x.compare(1, 0), 3);
        Check.due("compare(2, 3)", x.compare(2, 3), 3);
        Check.due("compare(0, 2)", x.compare(0, 2), 1);
        Check.due("compare(3, 1)", x.compare(3, 1), 2);
        // At the same packet, sets that differ in both directions.
        PolicyCompiler y = Check.holding(packet(5) + ".(x:1+x:2)", packet(5) + ".(x:2+x:3)", packet(5) + ".x:2");
        Check.due("compare(0, 1)", y.compare(0, 1), 3);
        Check.due("compare(2, 0)", y.compare(2, 0), 1);
        Check.due("compare(1, 2)", y.compare(1, 2), 2);
    }

    private static void witnessOfEachPacket() {
        Check.sentence("Returns the least packet that two policies turn into different sets.");
        for (int p = 0; p < 64; p++) {
            PolicyCompiler x = Check.holding("1", "!(" + packet(p) + ")", "1+" + packet(p) + ".x:0.x:1.x:2", "0");
            Check.due("witness(0, 1)", x.witness(0, 1), p);
            Check.due("witness(1, 0)", x.witness(1, 0), p);
            Check.due("difference(0, 1)", x.difference(0, 1), p);
            Check.due("witness(0, 2)", x.witness(0, 2), p / 16 == 2 ? -1 : p);
            Check.due("witness(0, 3)", x.witness(0, 3), 0);
        }
        // The least of several.
        PolicyCompiler x = Check.holding("x=1+x=3", "x=3", "y=3", "z=3+z=2");
        Check.due("witness(0, 1)", x.witness(0, 1), 16);
        Check.due("witness(0, 2)", x.witness(0, 2), 12);
        Check.due("witness(2, 3)", x.witness(2, 3), 2);
        Check.due("witness(3, 1)", x.witness(3, 1), 2);
    }

    private static void differenceOfEachPacket() {
        Check.sentence("Returns the least packet that is in only one of the two sets into which two policies "
                + "turn their witness.");
        for (int q = 0; q < 64; q++) {
            PolicyCompiler x = Check.holding(packet(7) + "." + assigned(q), "0", "1",
                    "1+" + packet(7) + "." + assigned(q));
            Check.due("witness(0, 1)", x.witness(0, 1), 7);
            Check.due("difference(0, 1)", x.difference(0, 1), q);
            Check.due("difference(1, 0)", x.difference(1, 0), q);
            Check.due("witness(2, 3)", x.witness(2, 3), q == 7 ? -1 : 7);
            Check.due("difference(2, 3)", x.difference(2, 3), q == 7 ? -1 : q);
            Check.due("difference(3, 2)", x.difference(3, 2), q == 7 ? -1 : q);
        }
    }

    private static void noWitness() {
        Check.sentence("Returns the packet; NONE if there is none;");
        PolicyCompiler x = Check.holding("x=1+y:2", "y:2+x=1", "0", "z=0.z=1");
        for (int s = 0; s < 4; s++) {
            Check.due("witness(" + s + ", " + s + ")", x.witness(s, s), -1);
            Check.due("difference(" + s + ", " + s + ")", x.difference(s, s), -1);
        }
        Check.due("witness(0, 1)", x.witness(0, 1), -1);
        Check.due("witness(2, 3)", x.witness(2, 3), -1);
        Check.sentence("Returns the packet; NONE if there is no witness;");
        Check.due("difference(0, 1)", x.difference(0, 1), -1);
        Check.due("difference(2, 3)", x.difference(2, 3), -1);
        dueNoErrors(x);
    }

    private static void oneOfBothSetsOnly() {
        Check.sentence("Returns the least packet that is in only one of the two sets into which two policies "
                + "turn their witness.");
        // {0, 16, 32} and {0, 16, 63}: 0 and 16 are in both.
        PolicyCompiler x = Check.holding("x:0.y:0.z:0+x:1.y:0.z:0+x:2.y:0.z:0", "x:0.y:0.z:0+x:1.y:0.z:0+x:3.y:3.z:3");
        Check.due("witness(0, 1)", x.witness(0, 1), 0);
        Check.due("difference(0, 1)", x.difference(0, 1), 32);
        Check.due("difference(1, 0)", x.difference(1, 0), 32);
        // The witness is the least packet, not that with the least difference.
        PolicyCompiler y = Check.holding("x=1.x:3+x=2.x:0", "x=1.x:2+x=2.x:1");
        Check.due("witness(0, 1)", y.witness(0, 1), 16);
        Check.due("difference(0, 1)", y.difference(0, 1), 32);
    }

    private static void slotsOutOfRange() {
        Check.sentence("OUT_OF_RANGE if an argument is out of range.");
        PolicyCompiler x = new PolicyCompiler();
        for (int slot : NO_SLOTS) {
            for (int other : new int[] {0, 3, slot}) {
                Check.due("compare(" + slot + ", " + other + ")", x.compare(slot, other), -2);
                Check.due("compare(" + other + ", " + slot + ")", x.compare(other, slot), -2);
                Check.due("witness(" + slot + ", " + other + ")", x.witness(slot, other), -2);
                Check.due("witness(" + other + ", " + slot + ")", x.witness(other, slot), -2);
                Check.due("difference(" + slot + ", " + other + ")", x.difference(slot, other), -2);
                Check.due("difference(" + other + ", " + slot + ")", x.difference(other, slot), -2);
            }
        }
        Check.due("errorCount(-2)", x.errorCount(-2), 18 * NO_SLOTS.length);
    }
}
