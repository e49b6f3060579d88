/** The edges of the document's sentences on packets, policies, size and slots. */
public final class PolicyBoundsTest {
    private static final int MIN = Integer.MIN_VALUE;
    private static final int MAX = Integer.MAX_VALUE;
    private static final String FIELDS = "xyz";

    public static void main(String[] args) {
        packetFields();
        packetNumbers();
        packetSets();
        constants();
        testsOfAllValues();
        assignmentsOfAllValues();
        unions();
        sequences();
        repetitions();
        negations();
        choices();
        predicates();
        sizesOfNodes();
        parseUpTo60();
        parseUpTo60WithLetters();
        combineUpTo60();
        modifyUpTo60();
        fourSlots();
        atMost512Calls();
        Check.end();
    }

    private static int value(int packet, int field) {
        return field == 0 ? packet / 16 : field == 1 ? packet / 4 % 4 : packet % 4;
    }

    private static int with(int packet, int field, int value) {
        int[] weights = {16, 4, 1};
        return packet + (value - value(packet, field)) * weights[field];
    }

    private static long set(int... packets) {
        long set = 0;
        for (int p : packets) {
            set |= 1L << p;
        }
        return set;
    }

    private static String packet(int p) {
        return "x=" + p / 16 + ".y=" + p / 4 % 4 + ".z=" + p % 4;
    }

    private static String step(int from, int to) {
        return packet(from) + ".x:" + to / 16 + ".y:" + to / 4 % 4 + ".z:" + to % 4;
    }

    private static void packetFields() {
        Check.sentence("A packet has three fields, x, y and z (numbered 0, 1 and 2), each with a value "
                + "from 0 to 3.");
        for (char letter = 'w'; letter <= '{'; letter++) {
            for (char digit = '/'; digit <= '4'; digit++) {
                boolean isField = letter >= 'x' && letter <= 'z';
                boolean isValue = digit >= '0' && digit <= '3';
                int want = !isField ? -10 : !isValue ? -12 : 1;
                Check.due("parse of a test", Check.parsed(letter + "=" + digit), want);
                Check.due("parse of an assignment", Check.parsed(letter + ":" + digit), want);
            }
        }
        for (int f = 0; f < 3; f++) {
            PolicyCompiler x = Check.holding(FIELDS.charAt(f) + "=3");
            for (int g = 0; g < 3; g++) {
                Check.due("match of " + FIELDS.charAt(f) + "=3", x.match(0, 0, g), f == g ? 3 : 4);
            }
            Check.due("match of field -1", x.match(0, 0, -1), -2);
            Check.due("match of field 3", x.match(0, 0, 3), -2);
        }
    }

    private static void packetNumbers() {
        Check.sentence("A packet is written as the number 16 * x + 4 * y + z, from 0 to 63.");
        for (int p = 0; p < 64; p++) {
            PolicyCompiler x = Check.holding(packet(p));
            Check.due("accepted of " + packet(p), x.accepted(0), set(p));
            Check.due("hit of " + p, x.hit(0, p), 0);
            Check.due("hits of " + p, x.hits(0, 0), 1);
        }
        PolicyCompiler x = new PolicyCompiler();
        int[] outside = {-1, 64, 65, 128, -64, MIN, MAX};
        for (int p : outside) {
            Check.due("outputs of packet " + p, x.outputs(0, p), -2);
            Check.due("hit of packet " + p, x.hit(0, p), -2);
        }
    }

    private static void packetSets() {
        Check.sentence("A set of packets is written as a long whose bit p is 1 if packet p is in the set.");
        PolicyCompiler x = new PolicyCompiler();
        for (int p = 0; p < 64; p++) {
            Check.due("outputs of " + p, x.outputs(0, p), set(p));
        }
        Check.due("packet 63", x.outputs(0, 63), Long.MIN_VALUE);
        Check.due("packet 32", x.outputs(0, 32), 4294967296L);
        Check.due("packet 31", x.outputs(0, 31), 2147483648L);
        Check.due("packets 31 and 32", Check.holding(packet(31) + "+" + packet(32)).accepted(0), 6442450944L);
        Check.due("packets 0 and 63", Check.holding(packet(0) + "+" + packet(63)).accepted(0), Long.MIN_VALUE + 1);
    }

    private static void constants() {
        PolicyCompiler x = Check.holding("0", "1");
        for (int p = 0; p < 64; p++) {
            Check.sentence("the constant 0 turns each packet into the empty set;");
            Check.due("0 on " + p, x.outputs(0, p), 0);
            Check.sentence("the constant 1 turns each packet into the set of this packet alone;");
            Check.due("1 on " + p, x.outputs(1, p), set(p));
        }
    }

    private static void testsOfAllValues() {
        Check.sentence("a test f=v turns a packet whose field f has the value v into the set of this "
                + "packet alone, and each other packet into the empty set;");
        for (int f = 0; f < 3; f++) {
            for (int v = 0; v < 4; v++) {
                String test = FIELDS.charAt(f) + "=" + v;
                PolicyCompiler x = Check.holding(test);
                for (int p = 0; p < 64; p++) {
                    Check.due(test + " on " + p, x.outputs(0, p), value(p, f) == v ? set(p) : 0);
                }
            }
        }
    }

    private static void assignmentsOfAllValues() {
        Check.sentence("an assignment f:v turns a packet into the set of the packet that has the value v "
                + "in field f and is otherwise equal;");
        for (int f = 0; f < 3; f++) {
            for (int v = 0; v < 4; v++) {
                String assignment = FIELDS.charAt(f) + ":" + v;
                PolicyCompiler x = Check.holding(assignment);
                for (int p = 0; p < 64; p++) {
                    Check.due(assignment + " on " + p, x.outputs(0, p), set(with(p, f, v)));
                }
            }
        }
    }

    private static void unions() {
        Check.sentence("the union a+b turns a packet into the union of what a and b turn it into;");
        PolicyCompiler x = Check.holding("x=3+z:0", "0+0", "0+y:3", "y:3+0");
        for (int p = 0; p < 64; p++) {
            long test = value(p, 0) == 3 ? set(p) : 0;
            Check.due("x=3+z:0 on " + p, x.outputs(0, p), test | set(with(p, 2, 0)));
            Check.due("0+0 on " + p, x.outputs(1, p), 0);
            Check.due("0+y:3 on " + p, x.outputs(2, p), set(with(p, 1, 3)));
            Check.due("y:3+0 on " + p, x.outputs(3, p), set(with(p, 1, 3)));
        }
    }

    private static void sequences() {
        Check.sentence("the sequence a.b turns a packet into the union, over all packets q into which a "
                + "turns it, of what b turns q into;");
        PolicyCompiler x = Check.holding("(x:1+x:2).(x=2+y:3)", "0.y:3", "y:3.0", "x:0.x:3");
        for (int p = 0; p < 64; p++) {
            int one = with(p, 0, 1);
            int two = with(p, 0, 2);
            Check.due("(x:1+x:2).(x=2+y:3) on " + p, x.outputs(0, p),
                    set(two, with(one, 1, 3), with(two, 1, 3)));
            Check.due("0.y:3 on " + p, x.outputs(1, p), 0);
            Check.due("y:3.0 on " + p, x.outputs(2, p), 0);
            Check.due("x:0.x:3 on " + p, x.outputs(3, p), set(with(p, 0, 3)));
        }
    }

    private static void repetitions() {
        Check.sentence("the repetition a* turns a packet into the set of all packets that can be reached "
                + "from it in 0 or more steps, each step leading from a packet to one of the packets into "
                + "which a turns it;");
        PolicyCompiler x = Check.holding("0*", "1*", "(x=0.x:1+x=1.x:2+x=2.x:3)*", "(x=3.x:2+x=2.x:1+x=1.x:0)*");
        for (int p = 0; p < 64; p++) {
            Check.due("no step: 0* on " + p, x.outputs(0, p), set(p));
            Check.due("a step to itself: 1* on " + p, x.outputs(1, p), set(p));
            long upwards = 0;
            long downwards = 0;
            for (int v = 0; v < 4; v++) {
                upwards |= v >= value(p, 0) ? set(with(p, 0, v)) : 0;
                downwards |= v <= value(p, 0) ? set(with(p, 0, v)) : 0;
            }
            Check.due("up to three steps from " + p, x.outputs(2, p), upwards);
            Check.due("up to three steps down from " + p, x.outputs(3, p), downwards);
        }
        // A way of two steps over each packet, and one back to its begin.
        for (int via = 0; via < 64; via++) {
            int from = (via + 21) % 64;
            int to = (via + 42) % 64;
            PolicyCompiler y = Check.holding("(" + step(from, via) + "+" + step(via, to) + ")*",
                    "(" + step(from, via) + "+" + step(via, to) + "+" + step(to, from) + ")*");
            Check.due("from " + from, y.outputs(0, from), set(from, via, to));
            Check.due("from " + via, y.outputs(0, via), set(via, to));
            Check.due("from " + to, y.outputs(0, to), set(to));
            Check.due("around from " + from, y.outputs(1, from), set(from, via, to));
            Check.due("around from " + via, y.outputs(1, via), set(from, via, to));
            Check.due("around from " + to, y.outputs(1, to), set(from, via, to));
        }
    }

    private static void negations() {
        Check.sentence("the negation !a, where a must be a predicate, turns a packet into the set of this "
                + "packet alone if a turns it into the empty set, and into the empty set otherwise;");
        PolicyCompiler x = Check.holding("!0", "!1", "!z=3", "!(x=0.y=0+z=0)");
        for (int p = 0; p < 64; p++) {
            boolean passes = value(p, 0) == 0 && value(p, 1) == 0 || value(p, 2) == 0;
            Check.due("!0 on " + p, x.outputs(0, p), set(p));
            Check.due("!1 on " + p, x.outputs(1, p), 0);
            Check.due("!z=3 on " + p, x.outputs(2, p), value(p, 2) == 3 ? 0 : set(p));
            Check.due("!(x=0.y=0+z=0) on " + p, x.outputs(3, p), passes ? 0 : set(p));
        }
    }

    private static void choices() {
        Check.sentence("the choice [c?a|b], where c must be a predicate, turns a packet into what a turns "
                + "it into if c does not turn it into the empty set, and into what b turns it into otherwise.");
        PolicyCompiler x = Check.holding("[0?x:1|y:3]", "[1?x:1|y:3]", "[z=0?x:1+x:2|0]", "[!z=3?0|y:3]");
        for (int p = 0; p < 64; p++) {
            long assigned = set(with(p, 1, 3));
            Check.due("[0?x:1|y:3] on " + p, x.outputs(0, p), assigned);
            Check.due("[1?x:1|y:3] on " + p, x.outputs(1, p), set(with(p, 0, 1)));
            Check.due("[z=0?x:1+x:2|0] on " + p, x.outputs(2, p),
                    value(p, 2) == 0 ? set(with(p, 0, 1), with(p, 0, 2)) : 0);
            Check.due("[!z=3?0|y:3] on " + p, x.outputs(3, p), value(p, 2) == 3 ? assigned : 0);
        }
    }

    private static void predicates() {
        Check.sentence("Predicates are the constants, tests, negations, unions and sequences of two "
                + "predicates, and choices with predicates a and b.");
        String[] predicates = {"0", "1", "x=0", "y=3", "!0", "!!z=1", "0+1", "x=0.y=0", "[x=0?0|1]",
            "!(x=0+y=0)", "[!0?!1|x=0.1]", "x=0+y=0+z=0", "x=0.y=0.z=0", "[[1?0|1]?[1?0|1]|[1?0|1]]"};
        String[] others = {"x:0", "z:3", "0*", "1*", "x=0*", "x:0+1", "1+x:0", "x:0.1", "1.x:0", "[1?x:0|1]",
            "[1?1|x:0]", "[1?x:0|x:0]", "[1?1*|1]", "[1?1|1*]", "1*+1", "1.1*", "!0+x:0", "!0.x:0",
            "(!0)*", "x=0+y=0+z:0", "x:0.y=0.z=0",
            "x:0+[1?1|1]", "x:0.[1?1|1]", "[1?1|1]+x:0", "[1?1|1].x:0", "x:0+!1", "x:0.!!1", "x:0+1+1", "[1?[1?1|x:0]|1]", "[0?x:0|1]", "[1?1|0.x:0]"};
        for (String text : predicates) {
            Check.due("isPredicate of " + text, Check.holding(text).isPredicate(0), 1);
        }
        for (String text : others) {
            Check.due("isPredicate of " + text, Check.holding(text).isPredicate(0), 0);
        }
    }

    private static void dueSize(String text, int want) {
        PolicyCompiler x = new PolicyCompiler();
        Check.due("parse of " + text, Check.parse(x, 2, text), want);
        Check.due("size of " + text, x.size(2), want);
    }

    private static void sizesOfNodes() {
        Check.sentence("constants, tests and assignments have size 1;");
        for (String text : new String[] {"0", "1", "x=3", "z:0", "((1))"}) {
            dueSize(text, 1);
        }
        Check.sentence("a repetition and a negation have size 1 plus that of their operand;");
        dueSize("x:0*", 2);
        dueSize("!x=0", 2);
        dueSize("(x=0+y=0)*", 4);
        dueSize("!(x=0+y=0)", 4);
        Check.sentence("a union and a sequence have size 1 plus those of both operands;");
        dueSize("0+x:0*", 4);
        dueSize("x:0*+0", 4);
        dueSize("0.x:0*", 4);
        dueSize("x:0*.0", 4);
        Check.sentence("a choice has size 1 plus those of c, a and b.");
        dueSize("[1?1|1]", 4);
        dueSize("[!1?1|1]", 5);
        dueSize("[1?1**|1]", 6);
        dueSize("[1?1|1***]", 7);
    }

    /** A text of size 60, and one of size 61 that differs from it as little as it can. */
    private static void duePair(String sixty, String tooLarge) {
        PolicyCompiler x = new PolicyCompiler();
        Check.due("parse of " + sixty, Check.parse(x, 0, sixty), 60);
        Check.due("size", x.size(0), 60);
        Check.due("parse of " + tooLarge, Check.parse(x, 1, tooLarge), -4);
        Check.due("size", x.size(1), 1);
        Check.due("errorCount(-4)", x.errorCount(-4), 1);
        Check.due("the text stays", x.clearText(), tooLarge.length());
        Check.due("only the first is saved", x.undo(), 0);
    }

    private static void parseUpTo60() {
        Check.sentence("A policy has a size of at most 60.");
        duePair("1" + "*".repeat(59), "1" + "*".repeat(60));
        duePair("!".repeat(59) + "1", "!".repeat(60) + "1");
        duePair("1*" + "+1".repeat(29), "1" + "+1".repeat(30));
        duePair("1" + ".1".repeat(29) + "*", "1" + ".1".repeat(30));
        duePair("!1" + ".1".repeat(29), "!!1" + ".1".repeat(29));
        duePair("[1?1|".repeat(19) + "!!0" + "]".repeat(19), "[1?1|".repeat(20) + "0" + "]".repeat(20));
        duePair("[" + "!".repeat(28) + "1?" + "!".repeat(28) + "1|1]", "[" + "!".repeat(29) + "1?"
                + "!".repeat(28) + "1|1]");
        duePair("[1?x:1" + "*".repeat(28) + "|x:1" + "*".repeat(28) + "]", "[1?x:1" + "*".repeat(28)
                + "|x:1" + "*".repeat(29) + "]");
        duePair("(" + "1+".repeat(29) + "1)*", "(" + "1+".repeat(29) + "1)**");
        duePair("!(" + "1.".repeat(29) + "1)", "!!(" + "1.".repeat(29) + "1)");
        Check.due("far too large", Check.parsed("1" + "*".repeat(149)), -4);
        Check.due("far too large", Check.parsed("0" + "+0".repeat(74)), -4);
    }

    private static void parseUpTo60WithLetters() {
        Check.sentence("or one of the letters p, q, r and s, which stands for the policy that the slot 0, "
                + "1, 2 or 3 holds when the text is parsed.");
        PolicyCompiler x = Check.holding("1" + "+1".repeat(29), "1", "!!1");
        Check.due("59 by a letter", Check.parse(x, 3, "p"), 59);
        Check.due("59 + 1", Check.parse(x, 3, "!p"), 60);
        Check.due("60 by a letter", Check.parse(x, 1, "s"), 60);
        Check.due("60 + 1", Check.parse(x, 1, "s*"), -4);
        Check.due("60 + 1 + 1", Check.parse(x, 1, "1+s"), -4);
        Check.due("59 + 1 + 1", Check.parse(x, 1, "p.1"), -4);
        Check.due("75 times 60", Check.parse(x, 1, "s" + "+s".repeat(74)), -4);
        Check.due("19 times 3", Check.parse(x, 0, "r" + "+r".repeat(14)), 59);
        Check.due("20 times 3", Check.parse(x, 0, "r" + "+r".repeat(15)), -4);
        Check.due("errorCount(-4)", x.errorCount(-4), 5);
    }

    private static void combineUpTo60() {
        Check.sentence("TOO_LARGE if the result would be too large.");
        for (int kind = 0; kind <= 1; kind++) {
            PolicyCompiler x = Check.holding("!" + "1+".repeat(14) + "1", "1" + "*".repeat(28), "1" + "*".repeat(58));
            Check.due("sizes", x.size(0) * 10000 + x.size(1) * 100 + x.size(2), 302959);
            Check.due("30 + 29 + 1", x.combine(kind, 0, 1, 3), 60);
            Check.due("29 + 30 + 1", x.combine(kind, 1, 0, 3), 60);
            Check.due("30 + 30 + 1", x.combine(kind, 0, 0, 3), -4);
            Check.due("59 + 29 + 1", x.combine(kind, 2, 1, 3), -4);
            Check.due("60 + 60 + 1", x.combine(kind, 3, 3, 3), -4);
            Check.due("29 + 29 + 1", x.combine(kind, 1, 1, 3), 59);
            Check.due("errorCount(-4)", x.errorCount(-4), 3);
            Check.due("only what succeeded is saved", x.undo(), 4);
            Check.due("size(3)", x.size(3), 60);
        }
    }

    private static void modifyUpTo60() {
        Check.sentence("TOO_LARGE if the result would be too large.");
        for (int kind = 0; kind <= 1; kind++) {
            PolicyCompiler x = Check.holding("!".repeat(57) + "1");
            Check.due("58 + 1", x.modify(kind, 0, 1), 59);
            Check.due("59", Check.parse(x, 1, "!p"), 59);
            Check.due("59 + 1", x.modify(kind, 1, 2), 60);
            Check.due("60", Check.parse(x, 2, "!!p"), 60);
            Check.due("60 + 1", x.modify(kind, 2, 3), -4);
            Check.due("60 + 1 into itself", x.modify(kind, 2, 2), -4);
            Check.due("size(2)", x.size(2), 60);
            Check.due("size(3)", x.size(3), 1);
            Check.due("errorCount(-4)", x.errorCount(-4), 2);
            Check.due("only what succeeded is saved", x.undo(), 4);
        }
    }

    private static void fourSlots() {
        Check.sentence("There are 4 slots, numbered 0 to 3, each of which holds a policy, initially the "
                + "constant 1.");
        PolicyCompiler x = new PolicyCompiler();
        for (int s = 0; s < 4; s++) {
            Check.dueText("slot " + s, Check.shown(x, s), "1");
            Check.due("isPredicate(" + s + ")", x.isPredicate(s), 1);
            Check.due("accepted(" + s + ")", x.accepted(s), -1);
        }
        Check.due("size(-1)", x.size(-1), -2);
        Check.due("size(4)", x.size(4), -2);
        for (int s = 0; s < 4; s++) {
            Check.due("parse(" + s + ")", Check.parse(x, s, "y:" + s), 1);
            for (int t = 0; t < 4; t++) {
                Check.dueText("slot " + t, Check.shown(x, t), t <= s ? "y:" + t : "1");
            }
        }
    }

    private static void atMost512Calls() {
        Check.sentence("An object is used for at most 512 calls after it has been made;");
        // The dearest policies there are, and nothing is used up before the last call.
        String full = "(x:0+x:1+x:2+x:3).(y:0+y:1+y:2+y:3).(z:0+z:1+z:2+z:3)";
        PolicyCompiler x = new PolicyCompiler();
        for (int i = 0; i < full.length(); i++) {
            x.append(full.charAt(i));
        }
        int calls = full.length();
        for (; calls < 500; calls += 5) {
            Check.due("parse", x.parse(calls / 5 % 4), 23);
            Check.due("combine", x.combine(1, calls / 5 % 4, calls / 5 % 4, 3), 47);
            Check.due("modify", x.modify(0, 3, 3), 48);
            Check.due("rows", x.rows(3), 64);
            Check.due("sharedNodes", x.sharedNodes(3, 3), 85);
        }
        for (; calls < 511; calls++) {
            x.append('*');
        }
        Check.due("call 512", x.outputs(3, 0), -1);
    }
}
