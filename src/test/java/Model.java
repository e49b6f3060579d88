import java.util.ArrayDeque;
import java.util.ArrayList;
import java.util.Arrays;
import java.util.Deque;
import java.util.LinkedHashMap;
import java.util.List;
import java.util.Map;
import java.util.TreeSet;

/**
 * The document once more, written for plainness and with none of the program's ways: trees, sets of
 * numbers, recursion and whole states on a stack. RunsAgainstModelTest holds the program against it.
 */
final class Model {
    /** A policy. */
    static final class Node {
        final String kind;
        final int field;
        final int value;
        final List<Node> parts;

        Node(String kind, int field, int value, Node... parts) {
            this.kind = kind;
            this.field = field;
            this.value = value;
            this.parts = List.of(parts);
        }

        boolean is(String... kinds) {
            return Arrays.asList(kinds).contains(kind);
        }

        int size() {
            int size = 1;
            for (Node part : parts) {
                size += part.size();
            }
            return size;
        }

        boolean predicate() {
            switch (kind) {
                case "0": case "1": case "=": case "!":
                    return true;
                case "+": case ".":
                    return parts.get(0).predicate() && parts.get(1).predicate();
                case "?":
                    return parts.get(1).predicate() && parts.get(2).predicate();
                default:
                    return false;
            }
        }

        private static String wrapped(Node part, String... kinds) {
            return part.is(kinds) ? "(" + part.form() + ")" : part.form();
        }

        String form() {
            switch (kind) {
                case "0": case "1":
                    return kind;
                case "=": case ":":
                    return "xyz".charAt(field) + kind + value;
                case "+":
                    return parts.get(0).form() + "+" + wrapped(parts.get(1), "+");
                case ".":
                    return wrapped(parts.get(0), "+") + "." + wrapped(parts.get(1), "+", ".");
                case "*":
                    return wrapped(parts.get(0), "+", ".", "!") + "*";
                case "!":
                    return "!" + wrapped(parts.get(0), "+", ".");
                default:
                    return "[" + parts.get(0).form() + "?" + parts.get(1).form() + "|"
                            + parts.get(2).form() + "]";
            }
        }

        TreeSet<Integer> turn(int packet) {
            TreeSet<Integer> result = new TreeSet<>();
            int[] values = {packet / 16, packet / 4 % 4, packet % 4};
            switch (kind) {
                case "0":
                    break;
                case "1":
                    result.add(packet);
                    break;
                case "=":
                    if (values[field] == value) {
                        result.add(packet);
                    }
                    break;
                case ":":
                    values[field] = value;
                    result.add(16 * values[0] + 4 * values[1] + values[2]);
                    break;
                case "+":
                    result.addAll(parts.get(0).turned(packet));
                    result.addAll(parts.get(1).turned(packet));
                    break;
                case ".":
                    for (int q : parts.get(0).turned(packet)) {
                        result.addAll(parts.get(1).turned(q));
                    }
                    break;
                case "*":
                    result.addAll(distances(parts.get(0), packet).keySet());
                    break;
                case "!":
                    if (parts.get(0).turned(packet).isEmpty()) {
                        result.add(packet);
                    }
                    break;
                default:
                    boolean yes = !parts.get(0).turned(packet).isEmpty();
                    result.addAll(parts.get(yes ? 1 : 2).turned(packet));
                    break;
            }
            return result;
        }

        private final Map<Integer, TreeSet<Integer>> known = new LinkedHashMap<>();

        TreeSet<Integer> turned(int packet) {
            TreeSet<Integer> result = known.get(packet);
            if (result == null) {
                result = turn(packet);
                known.put(packet, result);
            }
            return result;
        }
    }

    /** The packets that can be reached from a packet, each with its number of steps. */
    static Map<Integer, Integer> distances(Node step, int packet) {
        Map<Integer, Integer> far = new LinkedHashMap<>();
        Deque<Integer> open = new ArrayDeque<>();
        far.put(packet, 0);
        open.add(packet);
        while (!open.isEmpty()) {
            int p = open.remove();
            for (int q : step.turned(p)) {
                if (!far.containsKey(q)) {
                    far.put(q, far.get(p) + 1);
                    open.add(q);
                }
            }
        }
        return far;
    }

    /** Thrown at the first byte that cannot stand where it stands. */
    static final class SyntaxError extends RuntimeException {
        private static final long serialVersionUID = 1L;
        final int position;

        SyntaxError(int position) {
            this.position = position;
        }
    }

    /** The grammar, a method each. */
    private final class Reader {
        private int at = 0;

        private char next() {
            return at < text.length() ? text.charAt(at) : (char) 255;
        }

        private char take(String allowed) {
            if (at >= text.length() || allowed.indexOf(text.charAt(at)) < 0) {
                throw new SyntaxError(at);
            }
            return text.charAt(at++);
        }

        Node whole() {
            Node node = union();
            if (at < text.length()) {
                throw new SyntaxError(at);
            }
            return node;
        }

        private Node union() {
            Node node = sequence();
            while (next() == '+') {
                at++;
                node = new Node("+", 0, 0, node, sequence());
            }
            return node;
        }

        private Node sequence() {
            Node node = factor();
            while (next() == '.') {
                at++;
                node = new Node(".", 0, 0, node, factor());
            }
            return node;
        }

        private Node demandPredicate(Node node, int position) {
            if (!node.predicate()) {
                throw new SyntaxError(position);
            }
            return node;
        }

        private Node factor() {
            if (next() == '!') {
                at++;
                int begin = at;
                return new Node("!", 0, 0, demandPredicate(factor(), begin));
            }
            Node node = atom();
            while (next() == '*') {
                at++;
                node = new Node("*", 0, 0, node);
            }
            return node;
        }

        private Node atom() {
            char first = take("01xyz([pqrs");
            if (first == '0' || first == '1') {
                return new Node("" + first, 0, 0);
            }
            if (first >= 'x') {
                char sign = take("=:");
                return new Node("" + sign, first - 'x', take("0123") - '0');
            }
            if (first == '(') {
                Node inner = union();
                take(")");
                return inner;
            }
            if (first == '[') {
                int begin = at;
                Node c = demandPredicate(union(), begin);
                take("?");
                Node a = union();
                take("|");
                Node b = union();
                take("]");
                return new Node("?", 0, 0, c, a, b);
            }
            return slots[first - 'p'];
        }
    }

    /** A node of a diagram; equal nodes have equal names. */
    static final class Part {
        final String name;
        final int field;
        final List<Part> children;
        final TreeSet<Integer> actions;

        Part(TreeSet<Integer> actions) {
            this.name = actions.toString();
            this.field = -1;
            this.children = List.of();
            this.actions = actions;
        }

        Part(int field, List<Part> children) {
            StringBuilder name = new StringBuilder("f" + field);
            for (Part child : children) {
                name.append('<').append(child.name).append('>');
            }
            this.name = name.toString();
            this.field = field;
            this.children = children;
            this.actions = null;
        }

        void collect(Map<String, Part> all) {
            all.put(name, this);
            for (Part child : children) {
                child.collect(all);
            }
        }

        int depth() {
            int deepest = -1;
            for (Part child : children) {
                deepest = Math.max(deepest, child.depth());
            }
            return deepest + 1;
        }

        Part main() {
            Part best = null;
            int most = 0;
            for (Part child : children) {
                int count = 0;
                for (Part other : children) {
                    count += other.name.equals(child.name) ? 1 : 0;
                }
                if (count > most) {
                    most = count;
                    best = child;
                }
            }
            return best;
        }
    }

    /** A row of a table. */
    static final class Row {
        final int[] match;
        final TreeSet<Integer> actions;

        Row(int[] match, TreeSet<Integer> actions) {
            this.match = match;
            this.actions = actions;
        }
    }

    private Node[] slots = new Node[4];
    private String text = "";
    private final long[] errors = new long[7];
    private final Deque<Node[]> saved = new ArrayDeque<>();

    Model() {
        Arrays.fill(slots, new Node("1", 0, 0));
    }

    private int error(int code) {
        errors[-code]++;
        return code;
    }

    private static boolean bad(int slot) {
        return slot < 0 || slot > 3;
    }

    private int put(int slot, Node node) {
        if (node.size() > 60) {
            return error(-4);
        }
        saved.addLast(slots.clone());
        if (saved.size() > 5) {
            saved.removeFirst();
        }
        slots[slot] = node;
        return node.size();
    }

    int append(int value) {
        if (value < 0 || value > 127) {
            return error(-2);
        }
        if (text.length() == 150) {
            return error(-5);
        }
        text += (char) value;
        return text.length();
    }

    int clearText() {
        int length = text.length();
        text = "";
        return length;
    }

    int parse(int slot) {
        if (bad(slot)) {
            return error(-2);
        }
        Node node;
        try {
            node = new Reader().whole();
        } catch (SyntaxError e) {
            return -10 - e.position;
        }
        return put(slot, node);
    }

    int combine(int kind, int a, int b, int target) {
        if (kind < 0 || kind > 1 || bad(a) || bad(b) || bad(target)) {
            return error(-2);
        }
        return put(target, new Node(kind == 0 ? "+" : ".", 0, 0, slots[a], slots[b]));
    }

    int modify(int kind, int a, int target) {
        if (kind < 0 || kind > 1 || bad(a) || bad(target)) {
            return error(-2);
        }
        if (kind == 1 && !slots[a].predicate()) {
            return error(-3);
        }
        return put(target, new Node(kind == 0 ? "*" : "!", 0, 0, slots[a]));
    }

    int size(int slot) {
        return bad(slot) ? error(-2) : slots[slot].size();
    }

    int isPredicate(int slot) {
        return bad(slot) ? error(-2) : slots[slot].predicate() ? 1 : 0;
    }

    int printed(int slot, int index) {
        if (bad(slot) || index < -1) {
            return error(-2);
        }
        String form = slots[slot].form();
        return index == -1 ? form.length() : index >= form.length() ? -1 : form.charAt(index);
    }

    private static long bits(Iterable<Integer> packets) {
        long set = 0;
        for (int p : packets) {
            set |= 1L << p;
        }
        return set;
    }

    long outputs(int slot, int packet) {
        return bad(slot) || packet < 0 || packet > 63 ? error(-2) : bits(slots[slot].turned(packet));
    }

    long accepted(int slot) {
        if (bad(slot)) {
            return error(-2);
        }
        List<Integer> packets = new ArrayList<>();
        for (int p = 0; p < 64; p++) {
            if (!slots[slot].turned(p).isEmpty()) {
                packets.add(p);
            }
        }
        return bits(packets);
    }

    int spread(int slot) {
        if (bad(slot)) {
            return error(-2);
        }
        int most = 0;
        for (int p = 0; p < 64; p++) {
            most = Math.max(most, slots[slot].turned(p).size());
        }
        return most;
    }

    int rounds(int slot) {
        if (bad(slot)) {
            return error(-2);
        }
        int most = 0;
        for (int p = 0; p < 64; p++) {
            for (int far : distances(slots[slot], p).values()) {
                most = Math.max(most, far);
            }
        }
        return most;
    }

    int compare(int a, int b) {
        if (bad(a) || bad(b)) {
            return error(-2);
        }
        boolean inB = true;
        boolean inA = true;
        for (int p = 0; p < 64; p++) {
            inB &= slots[b].turned(p).containsAll(slots[a].turned(p));
            inA &= slots[a].turned(p).containsAll(slots[b].turned(p));
        }
        return inA && inB ? 0 : inB ? 1 : inA ? 2 : 3;
    }

    int witness(int a, int b) {
        if (bad(a) || bad(b)) {
            return error(-2);
        }
        for (int p = 0; p < 64; p++) {
            if (!slots[a].turned(p).equals(slots[b].turned(p))) {
                return p;
            }
        }
        return -1;
    }

    int difference(int a, int b) {
        int p = witness(a, b);
        if (p < 0) {
            return p;
        }
        for (int q = 0; q < 64; q++) {
            if (slots[a].turned(p).contains(q) != slots[b].turned(p).contains(q)) {
                return q;
            }
        }
        throw new IllegalStateException();
    }

    private static TreeSet<Integer> actions(Node node, int packet) {
        TreeSet<Integer> actions = new TreeSet<>();
        for (int q : node.turned(packet)) {
            int ex = q / 16 == packet / 16 ? 4 : q / 16;
            int ey = q / 4 % 4 == packet / 4 % 4 ? 4 : q / 4 % 4;
            int ez = q % 4 == packet % 4 ? 4 : q % 4;
            actions.add(25 * ex + 5 * ey + ez);
        }
        return actions;
    }

    private static Part diagram(Node node, int field, int packet) {
        if (field == 3) {
            return new Part(actions(node, packet));
        }
        List<Part> children = new ArrayList<>();
        boolean equal = true;
        for (int v = 0; v < 4; v++) {
            children.add(diagram(node, field + 1, 4 * packet + v));
            equal &= children.get(v).name.equals(children.get(0).name);
        }
        return equal ? children.get(0) : new Part(field, children);
    }

    private Part diagram(int slot) {
        return diagram(slots[slot], 0, 0);
    }

    private static Map<String, Part> nodes(Part root) {
        Map<String, Part> all = new LinkedHashMap<>();
        root.collect(all);
        return all;
    }

    int diagramSize(int slot) {
        return bad(slot) ? error(-2) : nodes(diagram(slot)).size();
    }

    int leaves(int slot) {
        if (bad(slot)) {
            return error(-2);
        }
        int leaves = 0;
        for (Part part : nodes(diagram(slot)).values()) {
            leaves += part.field < 0 ? 1 : 0;
        }
        return leaves;
    }

    int diagramDepth(int slot) {
        return bad(slot) ? error(-2) : diagram(slot).depth();
    }

    int sharedNodes(int a, int b) {
        if (bad(a) || bad(b)) {
            return error(-2);
        }
        Map<String, Part> common = nodes(diagram(a));
        common.keySet().retainAll(nodes(diagram(b)).keySet());
        return common.size();
    }

    private static void walk(Part part, int[] match, List<Row> table) {
        if (part.field < 0) {
            table.add(new Row(match, part.actions));
            return;
        }
        Part main = part.main();
        for (int v = 0; v < 4; v++) {
            if (!part.children.get(v).name.equals(main.name)) {
                int[] extended = match.clone();
                extended[part.field] = v;
                walk(part.children.get(v), extended, table);
            }
        }
        walk(main, match, table);
    }

    private List<Row> table(int slot) {
        List<Row> table = new ArrayList<>();
        walk(diagram(slot), new int[] {4, 4, 4}, table);
        while (!table.isEmpty() && table.get(table.size() - 1).actions.isEmpty()) {
            table.remove(table.size() - 1);
        }
        return table;
    }

    private boolean noRow(int slot, int row) {
        return bad(slot) || row < 0 || row >= table(slot).size();
    }

    int rows(int slot) {
        return bad(slot) ? error(-2) : table(slot).size();
    }

    int match(int slot, int row, int field) {
        return noRow(slot, row) || field < 0 || field > 2 ? error(-2) : table(slot).get(row).match[field];
    }

    int action(int slot, int row, int index) {
        if (noRow(slot, row) || index < -1) {
            return error(-2);
        }
        List<Integer> actions = new ArrayList<>(table(slot).get(row).actions);
        return index == -1 ? actions.size() : index >= actions.size() ? -1 : actions.get(index);
    }

    private int hitRow(List<Row> table, int packet) {
        int[] values = {packet / 16, packet / 4 % 4, packet % 4};
        for (int r = 0; r < table.size(); r++) {
            boolean meets = true;
            for (int f = 0; f < 3; f++) {
                int demand = table.get(r).match[f];
                meets &= demand == 4 || demand == values[f];
            }
            if (meets) {
                return r;
            }
        }
        return -1;
    }

    int hit(int slot, int packet) {
        return bad(slot) || packet < 0 || packet > 63 ? error(-2) : hitRow(table(slot), packet);
    }

    int hits(int slot, int row) {
        if (noRow(slot, row)) {
            return error(-2);
        }
        int packets = 0;
        for (int p = 0; p < 64; p++) {
            packets += hitRow(table(slot), p) == row ? 1 : 0;
        }
        return packets;
    }

    int undo() {
        if (saved.isEmpty()) {
            return error(-6);
        }
        slots = saved.removeLast();
        return saved.size();
    }

    int errorCount(int code) {
        return code < -6 || code > -2 ? error(-2) : (int) errors[-code];
    }

    long digest() {
        List<Long> values = new ArrayList<>();
        for (int code = 2; code <= 6; code++) {
            values.add(errors[code]);
        }
        values.add((long) text.length());
        for (int s = 0; s < 4; s++) {
            values.add((long) size(s));
            for (char letter : slots[s].form().toCharArray()) {
                values.add((long) letter);
            }
            values.addAll(List.of(outputs(s, 0), outputs(s, 27), outputs(s, 63), accepted(s)));
            for (int v : new int[] {spread(s), rounds(s), diagramSize(s), leaves(s), diagramDepth(s)}) {
                values.add((long) v);
            }
            List<Row> table = table(s);
            values.add((long) table.size());
            for (Row row : table) {
                for (int demand : row.match) {
                    values.add((long) demand);
                }
                for (int action : row.actions) {
                    values.add((long) action);
                }
            }
        }
        for (int a = 0; a < 4; a++) {
            for (int b = a + 1; b < 4; b++) {
                values.add((long) compare(a, b));
                values.add((long) witness(a, b));
            }
        }
        values.add((long) saved.size());
        long h = 2729;
        for (long v : values) {
            h = 31 * h + v;
        }
        return h;
    }
}
