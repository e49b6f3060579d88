import java.util.Random;

/** Random runs of at most 512 calls: each answer must be that of the plain model. */
public final class RunsAgainstModelTest {
    private static final int RUNS = 400;
    private static final String ALPHABET = "01xyz=:0123()[]?|!*+.pqrs";

    private final Random random;
    private final PolicyCompiler x = new PolicyCompiler();
    private final Model model = new Model();
    private final String run;
    private int calls = 0;

    private RunsAgainstModelTest(int seed) {
        random = new Random(seed);
        run = "run " + seed + ", call ";
    }

    public static void main(String[] args) {
        for (int seed = 1; seed <= RUNS; seed++) {
            new RunsAgainstModelTest(seed).go();
        }
        Check.end();
    }

    private void go() {
        boolean tight = random.nextInt(4) == 0;
        while (calls < 512) {
            if (calls < 510 && random.nextInt(100) < (tight ? 2 : 6)) {
                typePolicy();
            } else {
                call();
            }
        }
    }

    private void due(String call, long got, long want) {
        calls++;
        Check.due(run + calls + ": " + call, got, want);
    }

    /** Mostly a number that is in range, at times one at its edge or far off. */
    private int pick(int count) {
        switch (random.nextInt(40)) {
            case 0: return -1;
            case 1: return count;
            case 2: return random.nextBoolean() ? Integer.MIN_VALUE : Integer.MAX_VALUE;
            default: return random.nextInt(count);
        }
    }

    private void typePolicy() {
        String text = union(random.nextInt(5), false);
        if (random.nextInt(8) == 0) {
            text = deep();
        }
        if (random.nextInt(4) == 0) {
            text = spoiled(text);
        }
        due("clearText()", x.clearText(), model.clearText());
        for (int i = 0; i < text.length() && calls < 511 && i < 152; i++) {
            due("append", x.append(text.charAt(i)), model.append(text.charAt(i)));
        }
        int slot = pick(4);
        due("parse(" + slot + ") of " + text, x.parse(slot), model.parse(slot));
    }

    private String spoiled(String text) {
        StringBuilder spoiled = new StringBuilder(text);
        int at = random.nextInt(text.length());
        char letter = random.nextInt(10) == 0 ? (char) random.nextInt(128)
                : ALPHABET.charAt(random.nextInt(ALPHABET.length()));
        switch (random.nextInt(4)) {
            case 0:
                spoiled.deleteCharAt(at);
                break;
            case 1:
                spoiled.insert(at, letter);
                break;
            case 2:
                spoiled.setLength(at);
                break;
            default:
                spoiled.setCharAt(at, letter);
                break;
        }
        return spoiled.toString();
    }

    /** A text that is nested as deep as its length lets it be. */
    private String deep() {
        int levels = 20 + random.nextInt(55);
        switch (random.nextInt(5)) {
            case 0: return "(".repeat(levels) + leaf(false) + ")".repeat(levels);
            case 1: return "!".repeat(levels) + leaf(random.nextInt(3) > 0);
            case 2: return leaf(false) + "*".repeat(levels);
            case 3: return "[1?1|".repeat(levels / 3) + leaf(false) + "]".repeat(levels / 3);
            default: return "0+(".repeat(levels / 2) + leaf(false) + ")".repeat(levels / 2);
        }
    }

    private String union(int depth, boolean predicate) {
        StringBuilder text = new StringBuilder(sequence(depth, predicate));
        while (random.nextInt(3) == 0) {
            text.append('+').append(sequence(depth, predicate));
        }
        return text.toString();
    }

    private String sequence(int depth, boolean predicate) {
        StringBuilder text = new StringBuilder(factor(depth, predicate));
        while (random.nextInt(3) == 0) {
            text.append('.').append(factor(depth, predicate));
        }
        return text.toString();
    }

    private String factor(int depth, boolean predicate) {
        if (random.nextInt(6) == 0) {
            return "!" + factor(depth - 1, random.nextInt(30) > 0);
        }
        String text = atom(depth, predicate);
        return !predicate && random.nextInt(4) == 0 ? text + "*" : text;
    }

    private String atom(int depth, boolean predicate) {
        if (depth <= 0) {
            return leaf(predicate);
        }
        switch (random.nextInt(4)) {
            case 0:
                return "(" + union(depth - 1, predicate) + ")";
            case 1:
                return "[" + union(depth - 2, random.nextInt(30) > 0) + "?" + union(depth - 2, predicate)
                        + "|" + union(depth - 2, predicate) + "]";
            default:
                return leaf(predicate);
        }
    }

    private String leaf(boolean predicate) {
        int kind = random.nextInt(20);
        if (kind == 0) {
            return "0";
        }
        if (kind == 1) {
            return "1";
        }
        if (kind < 4 && (!predicate || random.nextInt(5) == 0)) {
            return "" + "pqrs".charAt(random.nextInt(4));
        }
        String sign = predicate || random.nextBoolean() ? "=" : ":";
        return "xyz".charAt(random.nextInt(3)) + sign + random.nextInt(4);
    }

    private void call() {
        int a = pick(4);
        int b = pick(4);
        int c = pick(4);
        int kind = pick(2);
        int packet = pick(64);
        int row = pick(6);
        int index = random.nextInt(6) - 1 - random.nextInt(20) / 19;
        switch (random.nextInt(27)) {
            case 0: due("append", x.append(packet + 64), model.append(packet + 64)); break;
            case 1: due("parse(" + a + ")", x.parse(a), model.parse(a)); break;
            case 2: case 3: due("combine(" + kind + ", " + a + ", " + b + ", " + c + ")",
                    x.combine(kind, a, b, c), model.combine(kind, a, b, c)); break;
            case 4: case 5: due("modify(" + kind + ", " + a + ", " + b + ")",
                    x.modify(kind, a, b), model.modify(kind, a, b)); break;
            case 6: due("size(" + a + ")", x.size(a), model.size(a)); break;
            case 7: due("isPredicate(" + a + ")", x.isPredicate(a), model.isPredicate(a)); break;
            case 8: due("printed(" + a + ", " + packet + ")",
                    x.printed(a, packet), model.printed(a, packet)); break;
            case 9: due("outputs(" + a + ", " + packet + ")",
                    x.outputs(a, packet), model.outputs(a, packet)); break;
            case 10: due("accepted(" + a + ")", x.accepted(a), model.accepted(a)); break;
            case 11: due("spread(" + a + ")", x.spread(a), model.spread(a)); break;
            case 12: due("rounds(" + a + ")", x.rounds(a), model.rounds(a)); break;
            case 13: due("compare(" + a + ", " + b + ")", x.compare(a, b), model.compare(a, b)); break;
            case 14: due("witness(" + a + ", " + b + ")", x.witness(a, b), model.witness(a, b)); break;
            case 15: due("difference(" + a + ", " + b + ")",
                    x.difference(a, b), model.difference(a, b)); break;
            case 16: due("diagramSize(" + a + ")", x.diagramSize(a), model.diagramSize(a)); break;
            case 17: due("leaves(" + a + ")", x.leaves(a), model.leaves(a)); break;
            case 18: due("diagramDepth(" + a + ")", x.diagramDepth(a), model.diagramDepth(a)); break;
            case 19: due("sharedNodes(" + a + ", " + b + ")",
                    x.sharedNodes(a, b), model.sharedNodes(a, b)); break;
            case 20: due("rows(" + a + ")", x.rows(a), model.rows(a)); break;
            case 21: due("match(" + a + ", " + row + ", " + b + ")",
                    x.match(a, row, b), model.match(a, row, b)); break;
            case 22: due("action(" + a + ", " + row + ", " + index + ")",
                    x.action(a, row, index), model.action(a, row, index)); break;
            case 23: due("hit(" + a + ", " + packet + ")", x.hit(a, packet), model.hit(a, packet)); break;
            case 24: due("hits(" + a + ", " + row + ")", x.hits(a, row), model.hits(a, row)); break;
            case 25: if (random.nextInt(3) == 0) {
                    due("undo()", x.undo(), model.undo());
                } else {
                    int code = -1 - random.nextInt(7);
                    due("errorCount(" + code + ")", x.errorCount(code), model.errorCount(code));
                }
                break;
            default: due("digest()", x.digest(), model.digest()); break;
        }
    }
}
