import java.lang.reflect.Constructor;
import java.lang.reflect.Field;
import java.lang.reflect.Method;
import java.lang.reflect.Modifier;
import java.util.TreeSet;
import java.util.function.IntPredicate;

/** The walk from the document's first line to the end of "Slots". */
final class DescriptionWalk {
    private static final String[] POLICIES = {"0", "1", "x=1", "y:2", "z=0+z:3", "x:0.y:1*", "!z=2",
        "[x=0?x:1|z:0+1]", "(x=0.x:1+x=1.x:2)*"};
    private static final String[] PREDICATES = {"0", "1", "x=1", "!z=2", "x=0+y=3", "y=1.z=1", "[x=0?y=1|z=1]"};

    private DescriptionWalk() {
    }

    static void walk() {
        whatItIs();
        calls512();
        publicFace();
        packets();
        constantsAndLeaves();
        unionsAndSequences();
        repetitions();
        negations();
        choices();
        predicates();
        sizes();
        greatestSize();
        slots();
    }

    /** The number of a packet as the document writes it. */
    static int number(int x, int y, int z) {
        return 16 * x + 4 * y + z;
    }

    static int value(int packet, int field) {
        int[] values = {packet / 16, packet / 4 % 4, packet % 4};
        return values[field];
    }

    private static int with(int packet, int field, int value) {
        int[] values = {value(packet, 0), value(packet, 1), value(packet, 2)};
        values[field] = value;
        return number(values[0], values[1], values[2]);
    }

    private static void whatItIs() {
        Walk.free("# PolicyCompiler ## What it is");
        Walk.next("A compiler for packet policies in the style of NetKAT: policies of tests, assignments, unions, "
                + "sequences, repetitions and choices are parsed, evaluated on packets, turned into canonical "
                + "decision diagrams and into ranked match-action tables, and compared with witnesses.");
        // Packets with x = 1 may get y = 2; of the others those with z = 3 pass, and no other one does.
        PolicyCompiler x = Check.holding("[x=1?y:2*|z=3+x:0.x=1]", "[x=1?y:2*|z=3]", "[x=1?y:2|z=3]");
        Check.dueText("parsed", Check.shown(x, 0), "[x=1?y:2*|z=3+x:0.x=1]");
        Check.due("evaluated: outputs(0, 16)", x.outputs(0, 16), 1L << 16 | 1L << 24);
        Check.due("evaluated: outputs(0, 3)", x.outputs(0, 3), 1L << 3);
        Check.due("evaluated: outputs(0, 2)", x.outputs(0, 2), 0);
        // Three leaves, a node for y below x = 1, one for z below the others, and the root.
        Script.run(x, "diagramSize(0) = 6; diagramSize(1) = 6; sharedNodes(0, 1) = 6");
        Script.run(x, "rows(0) = 3; hit(0, 24) = 0; hit(0, 16) = 1; hit(0, 3) = 2; hit(0, 2) = -1");
        Script.run(x, "compare(0, 1) = 0; witness(0, 1) = -1; compare(2, 0) = 1; witness(2, 0) = 16; "
                + "difference(2, 0) = 16");
    }

    private static void calls512() {
        Walk.next("An object is used for at most 512 calls after it has been made; what later calls answer is free.");
        PolicyCompiler x = new PolicyCompiler();
        Check.due("call 1", x.append('0'), 1);
        for (int call = 2; call < 512; call += 2) {
            Check.due("call " + call, x.parse(3), 1);
            Check.due("call " + (call + 1), x.undo(), 0);
        }
        PolicyCompiler fresh = new PolicyCompiler();
        fresh.append('1');
        Check.due("call 512", x.digest(), fresh.digest());
        PolicyCompiler y = new PolicyCompiler();
        for (int call = 1; call < 512; call++) {
            Check.due("call " + call, y.append(128), -2);
        }
        Check.due("call 512", y.errorCount(-2), 511);
    }

    /** Each line of the face is looked for in the class, and each public member in the face. */
    private static void publicFace() {
        Walk.free("## The public face");
        String face = Walk.between("```java", "```");
        String opener = "public final class PolicyCompiler {";
        Check.that("the face begins", face.startsWith(opener) && face.endsWith("}"));
        TreeSet<String> due = new TreeSet<>();
        for (String line : face.substring(opener.length(), face.length() - 1).split(";")) {
            due.add(line.trim());
        }
        due.remove("");
        Check.due("lines of the face", due.size(), 6 + 1 + 27);
        Check.dueText("the face", members().toString(), due.toString());
        Check.that("public and final", Modifier.isPublic(PolicyCompiler.class.getModifiers())
                && Modifier.isFinal(PolicyCompiler.class.getModifiers()));
    }

    /** The public members as the document writes them; the names of parameters are those of its face. */
    private static TreeSet<String> members() {
        TreeSet<String> members = new TreeSet<>();
        for (Field field : PolicyCompiler.class.getFields()) {
            members.add("public static final int " + field.getName() + " = " + constant(field));
        }
        for (Constructor<?> constructor : PolicyCompiler.class.getConstructors()) {
            members.add("public PolicyCompiler(" + parameters("", constructor.getParameterTypes()) + ")");
        }
        for (Method method : PolicyCompiler.class.getDeclaredMethods()) {
            if (Modifier.isPublic(method.getModifiers()) && !Modifier.isStatic(method.getModifiers())) {
                members.add("public " + method.getReturnType() + " " + method.getName() + "("
                        + parameters(method.getName(), method.getParameterTypes()) + ")");
            }
        }
        return members;
    }

    private static int constant(Field field) {
        try {
            return field.getInt(null);
        } catch (IllegalAccessException e) {
            throw new IllegalStateException(e);
        }
    }

    private static String parameters(String method, Class<?>[] types) {
        String document = Check.document();
        int at = document.indexOf(" " + method + "(");
        int begin = document.indexOf('(', Math.max(at, 0)) + 1;
        String[] names = document.substring(begin, document.indexOf(')', begin)).replace("int ", "").split(", ");
        StringBuilder text = new StringBuilder();
        for (int i = 0; i < types.length; i++) {
            text.append(i == 0 ? "" : ", ").append(types[i]).append(' ').append(i < names.length ? names[i] : "?");
        }
        return text.toString();
    }

    private static void packets() {
        Walk.free("## Description Packets.");
        Walk.next("A packet has three fields, x, y and z (numbered 0, 1 and 2), each with a value from 0 to 3.");
        Script.holding("match(0, 0, 0) = 1; match(0, 0, 1) = 2; match(0, 0, 2) = 3; match(0, 0, 3) = -2; "
                + "match(0, 0, -1) = -2", "x=1.y=2.z=3");
        for (String field : new String[] {"x", "y", "z"}) {
            for (int v = 0; v < 4; v++) {
                Check.due("a packet in four has the value", Long.bitCount(Check.holding(field + "=" + v).accepted(0)),
                        16);
            }
            Check.due("no value 4", Check.parsed(field + "=4"), -12);
            Check.due("no value 4", Check.parsed(field + ":4"), -12);
        }
        Check.due("no field w", Check.parsed("w=1"), -10);
        Walk.next("A packet is written as the number 16 * x + 4 * y + z, from 0 to 63.");
        for (int p = 0; p < 64; p++) {
            String assigned = "x:" + value(p, 0) + ".y:" + value(p, 1) + ".z:" + value(p, 2);
            PolicyCompiler x = Check.holding(assigned, "0", "z=0");
            Check.due("difference", x.difference(0, 1), p);
            Check.due("number", p, number(value(p, 0), value(p, 1), value(p, 2)));
            Check.due("hit", x.hit(2, p), p % 4 == 0 ? 0 : -1);
        }
        Script.run(new PolicyCompiler(), "outputs(0, -1) = -2; outputs(0, 64) = -2; hit(0, -1) = -2; hit(0, 64) = -2");
        Walk.next("A set of packets is written as a long whose bit p is 1 if packet p is in the set.");
        for (int p = 0; p < 64; p++) {
            PolicyCompiler x = Check.holding("x=" + value(p, 0) + ".y=" + value(p, 1) + ".z=" + value(p, 2));
            Check.due("outputs", x.outputs(0, p), 1L << p);
            Check.due("accepted", x.accepted(0), 1L << p);
        }
        Check.due("all packets", new PolicyCompiler().accepted(0), -1);
    }

    /** What a policy turns each packet into. */
    private static long[] images(PolicyCompiler x, int slot) {
        long[] images = new long[64];
        for (int p = 0; p < 64; p++) {
            images[p] = x.outputs(slot, p);
        }
        return images;
    }

    private static long[] imagesOf(String policy) {
        return images(Check.holding(policy), 0);
    }

    private static void dueImages(String policy, long[] images, long[] due) {
        for (int p = 0; p < 64; p++) {
            Check.due("what " + policy + " turns packet " + p + " into", images[p], due[p]);
        }
    }

    private static long[] filtered(IntPredicate passes) {
        long[] images = new long[64];
        for (int p = 0; p < 64; p++) {
            images[p] = passes.test(p) ? 1L << p : 0;
        }
        return images;
    }

    private static void constantsAndLeaves() {
        Walk.free("Policies.");
        Walk.next("A policy turns a packet into a set of packets.");
        Script.holding("outputs(0, 0) = 1; outputs(1, 0) = 3; outputs(2, 0) = 0", "1", "1+z:1", "0");
        Walk.free("The policies are:");
        Walk.next("the constant 0 turns each packet into the empty set;");
        dueImages("0", imagesOf("0"), filtered(p -> false));
        Walk.next("the constant 1 turns each packet into the set of this packet alone;");
        dueImages("1", imagesOf("1"), filtered(p -> true));
        Walk.next("a test f=v turns a packet whose field f has the value v into the set of this packet alone, and "
                + "each other packet into the empty set;");
        for (int code = 0; code < 12; code++) {
            int field = code / 4;
            int v = code % 4;
            String test = "xyz".charAt(field) + "=" + v;
            dueImages(test, imagesOf(test), filtered(p -> value(p, field) == v));
        }
        Walk.next("an assignment f:v turns a packet into the set of the packet that has the value v in field f and is "
                + "otherwise equal;");
        for (int code = 0; code < 12; code++) {
            String assignment = "xyz".charAt(code / 4) + ":" + code % 4;
            long[] due = new long[64];
            for (int p = 0; p < 64; p++) {
                due[p] = 1L << with(p, code / 4, code % 4);
            }
            dueImages(assignment, imagesOf(assignment), due);
        }
    }

    private static long[] united(long[] a, long[] b) {
        long[] images = new long[64];
        for (int p = 0; p < 64; p++) {
            images[p] = a[p] | b[p];
        }
        return images;
    }

    private static long[] chained(long[] a, long[] b) {
        long[] images = new long[64];
        for (int p = 0; p < 64; p++) {
            for (int q = 0; q < 64; q++) {
                images[p] |= (a[p] >>> q & 1) == 1 ? b[q] : 0;
            }
        }
        return images;
    }

    private static void unionsAndSequences() {
        Walk.next("the union a+b turns a packet into the union of what a and b turn it into;");
        for (String a : POLICIES) {
            for (String b : POLICIES) {
                dueImages(a + "+" + b, imagesOf(a + "+" + b), united(imagesOf(a), imagesOf(b)));
            }
        }
        Walk.next("the sequence a.b turns a packet into the union, over all packets q into which a turns it, of what "
                + "b turns q into;");
        for (String a : POLICIES) {
            for (String b : POLICIES) {
                String sequence = "(" + a + ").(" + b + ")";
                dueImages(sequence, imagesOf(sequence), chained(imagesOf(a), imagesOf(b)));
            }
        }
    }

    private static void repetitions() {
        Walk.next("the repetition a* turns a packet into the set of all packets that can be reached from it in 0 or "
                + "more steps, each step leading from a packet to one of the packets into which a turns it;");
        for (String a : POLICIES) {
            long[] step = imagesOf(a);
            long[] due = filtered(p -> true);
            for (int steps = 0; steps < 64; steps++) {
                due = united(due, chained(due, step));
            }
            dueImages("(" + a + ")*", imagesOf("(" + a + ")*"), due);
        }
    }

    private static void negations() {
        Walk.next("the negation !a, where a must be a predicate, turns a packet into the set of this packet alone if "
                + "a turns it into the empty set, and into the empty set otherwise;");
        for (String a : PREDICATES) {
            long[] images = imagesOf(a);
            dueImages("!(" + a + ")", imagesOf("!(" + a + ")"), filtered(p -> images[p] == 0));
        }
        PolicyCompiler x = Check.holding("x:1");
        Check.due("parse of !p", Check.parse(x, 1, "!p"), -11);
        Script.run(x, "modify(1, 0, 1) = -3");
    }

    private static void choices() {
        Walk.next("the choice [c?a|b], where c must be a predicate, turns a packet into what a turns it into if c "
                + "does not turn it into the empty set, and into what b turns it into otherwise.");
        for (String c : PREDICATES) {
            for (int i = 0; i < POLICIES.length; i++) {
                String a = POLICIES[i];
                String b = POLICIES[(i + 4) % POLICIES.length];
                long[] condition = imagesOf(c);
                long[] then = imagesOf(a);
                long[] due = imagesOf(b);
                for (int p = 0; p < 64; p++) {
                    due[p] = condition[p] != 0 ? then[p] : due[p];
                }
                String choice = "[" + c + "?" + a + "|" + b + "]";
                dueImages(choice, imagesOf(choice), due);
            }
        }
        Check.due("parse of [x:1?1|1]", Check.parsed("[x:1?1|1]"), -11);
    }

    private static void duePredicate(String policy, int want) {
        Check.due("isPredicate of " + policy, Check.holding(policy).isPredicate(0), want);
    }

    private static void predicates() {
        Walk.next("Predicates are the constants, tests, negations, unions and sequences of two predicates, and "
                + "choices with predicates a and b.");
        for (String predicate : PREDICATES) {
            duePredicate(predicate, 1);
            duePredicate("!(" + predicate + ")", 1);
            duePredicate("x:1*+" + predicate, 0);
            duePredicate("(" + predicate + ").z:0", 0);
            duePredicate("(" + predicate + ")*", 0);
            for (String other : PREDICATES) {
                duePredicate("(" + predicate + ")+(" + other + ")", 1);
                duePredicate("(" + predicate + ").(" + other + ")", 1);
                duePredicate("[" + predicate + "?" + other + "|" + predicate + "]", 1);
            }
            duePredicate("[1?" + predicate + "|x:1]", 0);
            duePredicate("[1?x:1|" + predicate + "]", 0);
        }
        duePredicate("x:1", 0);
        duePredicate("x:1+y:1", 0);
        duePredicate("x:1.y:1", 0);
        duePredicate("[1?x:1|y:1]", 0);
    }

    private static void dueSize(String policy, int want) {
        Check.due("parse of " + policy, Check.parsed(policy), want);
        Check.due("size of " + policy, Check.holding(policy).size(0), want);
    }

    private static void sizes() {
        Walk.free("Size.");
        Walk.next("The size of a policy is its number of nodes:");
        dueSize("[x=1?y:2*|!z=3+x:0.x=0]", 10);
        dueSize("((x=1))", 1);
        Walk.next("constants, tests and assignments have size 1;");
        for (String leaf : new String[] {"0", "1", "x=0", "y=3", "z=1", "x:0", "y:3", "z:1"}) {
            dueSize(leaf, 1);
        }
        Walk.next("a repetition and a negation have size 1 plus that of their operand;");
        dueSize("1*", 2);
        dueSize("!1", 2);
        dueSize("(x=1+y=1)*", 4);
        dueSize("!(x=1+y=1)", 4);
        Walk.next("a union and a sequence have size 1 plus those of both operands;");
        dueSize("1+1", 3);
        dueSize("1.1", 3);
        dueSize("1*+!!0", 6);
        dueSize("1*.!!0", 6);
        Walk.next("a choice has size 1 plus those of c, a and b.");
        dueSize("[1?1|1]", 4);
        dueSize("[!1?1|1]", 5);
        dueSize("[1?1**|1]", 6);
        dueSize("[1?1|1.1.1]", 8);
    }

    private static void greatestSize() {
        Walk.next("A policy has a size of at most 60.");
        String choices = "[1?1|".repeat(19);
        String ends = "]".repeat(19);
        dueSize("!".repeat(59) + "1", 60);
        dueSize("1+".repeat(29) + "1*", 60);
        dueSize(choices + "1**" + ends, 60);
        Check.due("61 negations and constants", Check.parsed("!".repeat(60) + "1"), -4);
        Check.due("a union of 61 nodes", Check.parsed("1+".repeat(30) + "1"), -4);
        Check.due("choices of 61 nodes", Check.parsed(choices + "1***" + ends), -4);
        Script.holding("combine(0, 0, 1, 2) = 60; combine(1, 0, 1, 2) = 60; combine(0, 2, 3, 0) = -4; "
                + "combine(1, 2, 3, 0) = -4; modify(0, 2, 2) = -4; modify(1, 0, 2) = 31; size(2) = 31",
                "!".repeat(29) + "1", "!".repeat(28) + "1");
        Script.holding("modify(0, 0, 1) = 60; modify(1, 0, 2) = 60; modify(0, 1, 1) = -4; modify(1, 2, 2) = -4",
                "!".repeat(58) + "1");
    }

    private static void slots() {
        Walk.free("Slots.");
        Walk.next("There are 4 slots, numbered 0 to 3, each of which holds a policy, initially the constant 1.");
        PolicyCompiler x = new PolicyCompiler();
        for (int s = 0; s < 4; s++) {
            Check.dueText("slot " + s, Check.shown(x, s), "1");
            Check.due("size", x.size(s), 1);
        }
        for (int s = 0; s < 4; s++) {
            Check.due("parse", Check.parse(x, s, "z:" + s), 1);
        }
        for (int s = 0; s < 4; s++) {
            Check.dueText("slot " + s, Check.shown(x, s), "z:" + s);
        }
        Script.run(x, "size(-1) = -2; size(4) = -2; parse(-1) = -2; parse(4) = -2; combine(0, 4, 0, 0) = -2; "
                + "combine(0, 0, -1, 0) = -2; modify(0, 0, 4) = -2; compare(0, 4) = -2; rows(-1) = -2");
    }
}
