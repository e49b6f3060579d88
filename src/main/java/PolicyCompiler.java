/**
 * A compiler for packet policies in the style of NetKAT: policies are parsed, evaluated on packets,
 * turned into canonical decision diagrams and ranked match-action tables, and compared.
 *
 * All arrays are made by the constructors and used again, so that no call makes an object.
 */
public final class PolicyCompiler {
    public static final int OUT_OF_RANGE = -2;
    public static final int NOT_A_PREDICATE = -3;
    public static final int TOO_LARGE = -4;
    public static final int FULL = -5;
    public static final int NOTHING_SAVED = -6;
    public static final int NONE = -1;

    private static final int MAX_TEXT = 150;
    private static final int MAX_BYTE = 127;
    private static final int MAX_SIZE = 60;
    private static final int SLOTS = 4;
    private static final int MAX_SAVED = 5;
    private static final int ERROR_CODES = 5;
    private static final int SYNTAX_ERROR = -10;
    private static final int DIGEST_START = 2729;

    private static final int FIELDS = 3;
    private static final int VALUES = 4;
    private static final int PACKETS = 64;
    // The fourth entry beside the values: "keep" in an action, "nothing demanded" in a match.
    private static final int FREE = 4;
    private static final int ENTRIES = 5;
    private static final int ALL_FREE = 124;
    private static final int ACTIONS = 125;

    // The kinds of nodes.
    private static final int ZERO = 0;
    private static final int ONE = 1;
    private static final int TEST = 2;
    private static final int ASSIGNMENT = 3;
    private static final int UNION = 4;
    private static final int SEQUENCE = 5;
    private static final int REPETITION = 6;
    private static final int NEGATION = 7;
    private static final int CHOICE = 8;

    private final int[] text = new int[MAX_TEXT];
    private int textLength = 0;
    private final Slot[] slots = new Slot[SLOTS];
    private final History history = new History();
    private final int[] errors = new int[ERROR_CODES];
    private final Parser parser = new Parser();
    private final Evaluator evaluator = new Evaluator();
    private final Policy draft = new Policy();

    public PolicyCompiler() {
        for (int s = 0; s < SLOTS; s++) {
            slots[s] = new Slot();
        }
    }

    // ---- policies

    public int append(int value) {
        if (value < 0 || value > MAX_BYTE) {
            return fail(OUT_OF_RANGE);
        }
        if (textLength >= MAX_TEXT) {
            return fail(FULL);
        }
        text[textLength] = value;
        textLength++;
        return textLength;
    }

    public int clearText() {
        int length = textLength;
        textLength = 0;
        return length;
    }

    public int parse(int slot) {
        if (!isSlot(slot)) {
            return fail(OUT_OF_RANGE);
        }
        int error = parser.read(text, textLength, slots);
        if (error != Parser.NO_ERROR) {
            return SYNTAX_ERROR - error;
        }
        return store(parser.result(), slot);
    }

    public int combine(int kind, int a, int b, int target) {
        if (!isBit(kind) || !isSlot(a) || !isSlot(b) || !isSlot(target)) {
            return fail(OUT_OF_RANGE);
        }
        Policy left = slots[a].policy();
        Policy right = slots[b].policy();
        draft.start();
        draft.addAll(left);
        draft.addAll(right);
        draft.add(kind == 0 ? UNION : SEQUENCE, 0, 0);
        draft.markPredicate(left.givesPredicate() && right.givesPredicate());
        return store(draft, target);
    }

    public int modify(int kind, int a, int target) {
        if (!isBit(kind) || !isSlot(a) || !isSlot(target)) {
            return fail(OUT_OF_RANGE);
        }
        Policy operand = slots[a].policy();
        boolean negation = kind == 1;
        if (negation && !operand.givesPredicate()) {
            return fail(NOT_A_PREDICATE);
        }
        draft.start();
        draft.addAll(operand);
        draft.add(negation ? NEGATION : REPETITION, 0, 0);
        draft.markPredicate(negation);
        return store(draft, target);
    }

    public int size(int slot) {
        if (!isSlot(slot)) {
            return fail(OUT_OF_RANGE);
        }
        return slots[slot].policy().nodeCount();
    }

    public int isPredicate(int slot) {
        if (!isSlot(slot)) {
            return fail(OUT_OF_RANGE);
        }
        return slots[slot].policy().givesPredicate() ? 1 : 0;
    }

    public int printed(int slot, int index) {
        if (!isSlot(slot) || index < -1) {
            return fail(OUT_OF_RANGE);
        }
        Printout printout = slots[slot].upToDate(evaluator).printout();
        if (index == -1) {
            return printout.byteCount();
        }
        return index < printout.byteCount() ? printout.byteAt(index) : NONE;
    }

    // ---- evaluation

    public long outputs(int slot, int packet) {
        if (!isSlot(slot) || !isPacket(packet)) {
            return fail(OUT_OF_RANGE);
        }
        return slots[slot].upToDate(evaluator).relation().imageOf(packet);
    }

    public long accepted(int slot) {
        if (!isSlot(slot)) {
            return fail(OUT_OF_RANGE);
        }
        return slots[slot].upToDate(evaluator).relation().domain();
    }

    public int spread(int slot) {
        if (!isSlot(slot)) {
            return fail(OUT_OF_RANGE);
        }
        return slots[slot].upToDate(evaluator).relation().widest();
    }

    public int rounds(int slot) {
        if (!isSlot(slot)) {
            return fail(OUT_OF_RANGE);
        }
        return slots[slot].upToDate(evaluator).relation().mostSteps();
    }

    // ---- comparison

    public int compare(int a, int b) {
        if (!isSlot(a) || !isSlot(b)) {
            return fail(OUT_OF_RANGE);
        }
        return slots[a].upToDate(evaluator).relation().orderTo(slots[b].upToDate(evaluator).relation());
    }

    public int witness(int a, int b) {
        if (!isSlot(a) || !isSlot(b)) {
            return fail(OUT_OF_RANGE);
        }
        return slots[a].upToDate(evaluator).relation().firstUnlike(slots[b].upToDate(evaluator).relation());
    }

    public int difference(int a, int b) {
        if (!isSlot(a) || !isSlot(b)) {
            return fail(OUT_OF_RANGE);
        }
        Relation left = slots[a].upToDate(evaluator).relation();
        Relation right = slots[b].upToDate(evaluator).relation();
        int packet = left.firstUnlike(right);
        return packet == NONE ? NONE : lowestOf(left.imageOf(packet) ^ right.imageOf(packet));
    }

    // ---- diagrams

    public int diagramSize(int slot) {
        if (!isSlot(slot)) {
            return fail(OUT_OF_RANGE);
        }
        return slots[slot].upToDate(evaluator).diagram().nodeTotal();
    }

    public int leaves(int slot) {
        if (!isSlot(slot)) {
            return fail(OUT_OF_RANGE);
        }
        return slots[slot].upToDate(evaluator).diagram().leafTotal();
    }

    public int diagramDepth(int slot) {
        if (!isSlot(slot)) {
            return fail(OUT_OF_RANGE);
        }
        return slots[slot].upToDate(evaluator).diagram().longestWay();
    }

    public int sharedNodes(int a, int b) {
        if (!isSlot(a) || !isSlot(b)) {
            return fail(OUT_OF_RANGE);
        }
        return slots[a].upToDate(evaluator).diagram().twinsIn(slots[b].upToDate(evaluator).diagram());
    }

    // ---- tables

    public int rows(int slot) {
        if (!isSlot(slot)) {
            return fail(OUT_OF_RANGE);
        }
        return slots[slot].upToDate(evaluator).table().rowTotal();
    }

    public int match(int slot, int row, int field) {
        if (!isSlot(slot) || field < 0 || field >= FIELDS) {
            return fail(OUT_OF_RANGE);
        }
        Table table = slots[slot].upToDate(evaluator).table();
        if (!table.hasRow(row)) {
            return fail(OUT_OF_RANGE);
        }
        return entryOf(table.demandsOf(row), field);
    }

    public int action(int slot, int row, int index) {
        if (!isSlot(slot) || index < -1) {
            return fail(OUT_OF_RANGE);
        }
        Table table = slots[slot].upToDate(evaluator).table();
        if (!table.hasRow(row)) {
            return fail(OUT_OF_RANGE);
        }
        Diagram diagram = slots[slot].diagram();
        int leaf = table.leafOf(row);
        return index == -1 ? diagram.actionTotal(leaf) : diagram.actionAt(leaf, index);
    }

    public int hit(int slot, int packet) {
        if (!isSlot(slot) || !isPacket(packet)) {
            return fail(OUT_OF_RANGE);
        }
        return slots[slot].upToDate(evaluator).table().firstRowFor(packet);
    }

    public int hits(int slot, int row) {
        if (!isSlot(slot)) {
            return fail(OUT_OF_RANGE);
        }
        Table table = slots[slot].upToDate(evaluator).table();
        if (!table.hasRow(row)) {
            return fail(OUT_OF_RANGE);
        }
        int packets = 0;
        for (int p = 0; p < PACKETS; p++) {
            if (table.firstRowFor(p) == row) {
                packets++;
            }
        }
        return packets;
    }

    // ---- state

    public int undo() {
        int changed = history.newestSlot();
        if (!isSlot(changed)) {
            return fail(NOTHING_SAVED);
        }
        slots[changed].hold(history.newestPolicy());
        history.dropNewest();
        return history.savedCount();
    }

    public int errorCount(int code) {
        if (code < NOTHING_SAVED || code > OUT_OF_RANGE) {
            return fail(OUT_OF_RANGE);
        }
        return errors[OUT_OF_RANGE - code];
    }

    public long digest() {
        long h = DIGEST_START;
        for (int e = 0; e < ERROR_CODES; e++) {
            h = mixed(h, errors[e]);
        }
        h = mixed(h, textLength);
        for (int s = 0; s < SLOTS; s++) {
            h = mixedSlot(h, slots[s].upToDate(evaluator));
        }
        for (int a = 0; a < SLOTS; a++) {
            for (int b = a + 1; b < SLOTS; b++) {
                h = mixed(h, slots[a].relation().orderTo(slots[b].relation()));
                h = mixed(h, slots[a].relation().firstUnlike(slots[b].relation()));
            }
        }
        return mixed(h, history.savedCount());
    }

    private static long mixed(long h, long v) {
        return 31 * h + v;
    }

    private static long mixedSlot(long start, Slot slot) {
        long h = mixed(start, slot.policy().nodeCount());
        Printout printout = slot.printout();
        int bytes = printout.byteCount();
        for (int i = 0; i < bytes; i++) {
            h = mixed(h, printout.byteAt(i));
        }
        Relation relation = slot.relation();
        h = mixed(h, relation.imageOf(0));
        h = mixed(h, relation.imageOf(27));
        h = mixed(h, relation.imageOf(63));
        h = mixed(h, relation.domain());
        h = mixed(h, relation.widest());
        h = mixed(h, relation.mostSteps());
        Diagram diagram = slot.diagram();
        h = mixed(h, diagram.nodeTotal());
        h = mixed(h, diagram.leafTotal());
        h = mixed(h, diagram.longestWay());
        return mixedTable(h, slot.table(), diagram);
    }

    private static long mixedTable(long start, Table table, Diagram diagram) {
        int rowTotal = table.rowTotal();
        long h = mixed(start, rowTotal);
        for (int r = 0; r < rowTotal; r++) {
            for (int f = 0; f < FIELDS; f++) {
                h = mixed(h, entryOf(table.demandsOf(r), f));
            }
            int leaf = table.leafOf(r);
            for (int number = 0; number < ACTIONS; number++) {
                if (diagram.hasAction(leaf, number)) {
                    h = mixed(h, number);
                }
            }
        }
        return h;
    }

    /** Counts an error code and answers it. */
    private int fail(int code) {
        int index = OUT_OF_RANGE - code;
        if (index >= 0 && index < ERROR_CODES) {
            errors[index]++;
        }
        return code;
    }

    /** Puts a policy that has been built into a slot, unless it is too large. */
    private int store(Policy built, int target) {
        if (built.nodeCount() > MAX_SIZE) {
            return fail(TOO_LARGE);
        }
        history.save(target, slots[target].policy());
        slots[target].hold(built);
        return built.nodeCount();
    }

    private static boolean isBit(int kind) {
        return kind == 0 || kind == 1;
    }

    private static boolean isSlot(int slot) {
        return slot >= 0 && slot < SLOTS;
    }

    private static boolean isPacket(int packet) {
        return packet >= 0 && packet < PACKETS;
    }

    // ---- packets, sets of packets, and three entries written as one number

    private static int shiftOf(int field) {
        return field == 0 ? 4 : field == 1 ? 2 : 0;
    }

    private static int valueOf(int packet, int field) {
        return (packet >> shiftOf(field)) & 3;
    }

    private static int withValue(int packet, int field, int value) {
        int shift = shiftOf(field);
        return (packet & ~(3 << shift)) | (value << shift);
    }

    private static long alone(int packet) {
        return 1L << packet;
    }

    private static boolean holds(long set, int packet) {
        return ((set >>> packet) & 1L) != 0L;
    }

    /** The least packet of a set that is not empty. */
    private static int lowestOf(long set) {
        return Long.bitCount((set & -set) - 1L) & (PACKETS - 1);
    }

    /** What a set of packets is turned into, where the images of all packets begin at a place. */
    private static long imageOfSet(long[] images, int begin, long set) {
        long image = 0L;
        long rest = set;
        int packets = Long.bitCount(set);
        for (int k = 0; k < packets; k++) {
            int at = begin + lowestOf(rest);
            if (at >= 0 && at < images.length) {
                image |= images[at];
            }
            rest &= rest - 1L;
        }
        return image;
    }

    private static int weightOf(int field) {
        return field == 0 ? ENTRIES * ENTRIES : field == 1 ? ENTRIES : 1;
    }

    private static int entryOf(int number, int field) {
        int rest = field == 0 ? number / (ENTRIES * ENTRIES) : field == 1 ? number / ENTRIES : number;
        return rest % ENTRIES;
    }

    /** The action that leads from one packet to another. */
    private static int actionFrom(int packet, int output) {
        int number = 0;
        for (int f = 0; f < FIELDS; f++) {
            int value = valueOf(output, f);
            number += weightOf(f) * (value == valueOf(packet, f) ? FREE : value);
        }
        return number;
    }

    /** A policy as a row of nodes in which each node stands behind its operands. */
    private static final class Policy {
        private final int[] nodes = new int[MAX_SIZE];
        // For each node, where the part of the row begins that is the node with all below it.
        private final int[] begins = new int[MAX_SIZE];
        // Counts on beyond MAX_SIZE: of a policy that is too large only the size is known.
        private int count = 0;
        private boolean predicate = false;

        void start() {
            count = 0;
            predicate = false;
        }

        void add(int kind, int field, int value) {
            if (count < MAX_SIZE) {
                int operands = operandsOf(kind);
                int begin = count;
                for (int k = 0; k < operands && begin > 0 && begin <= MAX_SIZE; k++) {
                    begin = begins[begin - 1];
                }
                nodes[count] = (kind << 4) | (field << 2) | value;
                begins[count] = begin;
            }
            count++;
        }

        static int operandsOf(int kind) {
            switch (kind) {
                case UNION:
                case SEQUENCE:
                    return 2;
                case REPETITION:
                case NEGATION:
                    return 1;
                case CHOICE:
                    return 3;
                default:
                    return 0;
            }
        }

        void addAll(Policy other) {
            int offset = count;
            for (int i = 0; i < other.count && i < MAX_SIZE; i++) {
                if (count < MAX_SIZE) {
                    nodes[count] = other.nodes[i];
                    begins[count] = offset + other.begins[i];
                }
                count++;
            }
        }

        void markPredicate(boolean given) {
            predicate = given;
        }

        boolean givesPredicate() {
            return predicate;
        }

        int nodeCount() {
            return count;
        }

        private int nodeAt(int node) {
            return node >= 0 && node < MAX_SIZE ? nodes[node] : 0;
        }

        int kindAt(int node) {
            return nodeAt(node) >> 4;
        }

        int fieldAt(int node) {
            return (nodeAt(node) >> 2) & 3;
        }

        int valueAt(int node) {
            return nodeAt(node) & 3;
        }

        /** The operand of a node that has so many operands of the same node behind it. */
        int operandAt(int node, int behind) {
            int operand = node - 1;
            for (int k = 0; k < behind && operand >= 0 && operand < MAX_SIZE; k++) {
                operand = begins[operand] - 1;
            }
            return operand >= 0 && operand < MAX_SIZE ? operand : 0;
        }
    }

    /**
     * Reads a text byte by byte with stacks of its own: the brackets of a text can be nested deeper
     * than calls may be.
     */
    private static final class Parser {
        static final int NO_ERROR = -1;

        // What the next byte may be.
        private static final int AT_FACTOR = 0;
        private static final int AT_SIGN = 1;
        private static final int AT_DIGIT = 2;
        private static final int BEHIND_ATOM = 3;

        // What is open: an operator whose right operand, or a bracket whose end, is still to come.
        private static final int NOTHING = 0;
        private static final int OPEN_UNION = 1;
        private static final int OPEN_SEQUENCE = 2;
        private static final int OPEN_NEGATION = 3;
        private static final int OPEN_PARENTHESIS = 4;
        private static final int OPEN_CONDITION = 5;
        private static final int OPEN_THEN = 6;
        private static final int OPEN_ELSE = 7;

        // Each byte opens at most one thing and ends at most one operand.
        private final int[] opened = new int[MAX_TEXT];
        private final int[] openedAt = new int[MAX_TEXT];
        private int openCount = 0;
        private final boolean[] predicates = new boolean[MAX_TEXT];
        private int operandCount = 0;

        private final Policy built = new Policy();
        private int state = AT_FACTOR;
        private int field = 0;
        private int sign = TEST;
        private int error = NO_ERROR;

        Policy result() {
            return built;
        }

        /** Builds the policy of a text, and answers the syntax error position or NO_ERROR. */
        int read(int[] text, int length, Slot[] slots) {
            built.start();
            openCount = 0;
            operandCount = 0;
            state = AT_FACTOR;
            error = NO_ERROR;
            for (int i = 0; i < length && i < text.length && error == NO_ERROR; i++) {
                switch (state) {
                    case AT_FACTOR:
                        takeFactor(text[i], i, slots);
                        break;
                    case AT_SIGN:
                        takeSign(text[i], i);
                        break;
                    case AT_DIGIT:
                        takeDigit(text[i], i);
                        break;
                    default:
                        takeBehindAtom(text[i], i);
                        break;
                }
            }
            if (error == NO_ERROR) {
                finish(length);
            }
            return error;
        }

        private void finish(int length) {
            if (state != BEHIND_ATOM) {
                error = length;
                return;
            }
            endFactor();
            endUnion();
            if (error == NO_ERROR && openCount > 0) {
                error = length;
            }
            built.markPredicate(topIsPredicate());
        }

        private void takeFactor(int letter, int at, Slot[] slots) {
            if (letter == '!') {
                open(OPEN_NEGATION, at);
            } else if (letter == '(') {
                open(OPEN_PARENTHESIS, at);
            } else if (letter == '[') {
                open(OPEN_CONDITION, at);
            } else if (letter == '0' || letter == '1') {
                endLeaf(letter == '0' ? ZERO : ONE, 0, 0);
            } else if (letter >= 'x' && letter <= 'z') {
                field = letter - 'x';
                state = AT_SIGN;
            } else if (letter >= 'p' && letter <= 's' && letter - 'p' < slots.length) {
                Policy named = slots[letter - 'p'].policy();
                built.addAll(named);
                pushOperand(named.givesPredicate());
                state = BEHIND_ATOM;
            } else {
                error = at;
            }
        }

        private void takeSign(int letter, int at) {
            if (letter == '=' || letter == ':') {
                sign = letter == '=' ? TEST : ASSIGNMENT;
                state = AT_DIGIT;
            } else {
                error = at;
            }
        }

        private void takeDigit(int letter, int at) {
            if (letter >= '0' && letter < '0' + VALUES) {
                endLeaf(sign, field, letter - '0');
            } else {
                error = at;
            }
        }

        private void endLeaf(int kind, int ofField, int value) {
            built.add(kind, ofField, value);
            pushOperand(kind != ASSIGNMENT);
            state = BEHIND_ATOM;
        }

        private void takeBehindAtom(int letter, int at) {
            if (letter == '*') {
                built.add(REPETITION, 0, 0);
                popOperand();
                pushOperand(false);
                return;
            }
            endFactor();
            if (letter == '.' && error == NO_ERROR) {
                open(OPEN_SEQUENCE, at);
                return;
            }
            endPair(OPEN_UNION, UNION);
            if (letter == '+' && error == NO_ERROR) {
                open(OPEN_UNION, at);
                return;
            }
            endUnion();
            if (error == NO_ERROR) {
                takeBracket(letter, at);
            }
        }

        /** Ends what a factor ends: the negations that wait for it, then a sequence. */
        private void endFactor() {
            for (int n = openCount; n > 0 && innermost() == OPEN_NEGATION && error == NO_ERROR; n--) {
                if (topIsPredicate()) {
                    built.add(NEGATION, 0, 0);
                    openCount--;
                } else {
                    error = innermostBegin();
                }
            }
            endPair(OPEN_SEQUENCE, SEQUENCE);
        }

        /** Ends a union; that of a condition must be a predicate, whatever comes behind it. */
        private void endUnion() {
            endPair(OPEN_UNION, UNION);
            if (error == NO_ERROR && innermost() == OPEN_CONDITION && !topIsPredicate()) {
                error = innermostBegin();
            }
        }

        private void endPair(int opener, int kind) {
            if (error == NO_ERROR && innermost() == opener) {
                built.add(kind, 0, 0);
                boolean right = popOperand();
                boolean left = popOperand();
                pushOperand(left && right);
                openCount--;
            }
        }

        private void takeBracket(int letter, int at) {
            int opener = innermost();
            if (letter == ')' && opener == OPEN_PARENTHESIS) {
                openCount--;
            } else if (letter == '?' && opener == OPEN_CONDITION) {
                openCount--;
                open(OPEN_THEN, at);
            } else if (letter == '|' && opener == OPEN_THEN) {
                openCount--;
                open(OPEN_ELSE, at);
            } else if (letter == ']' && opener == OPEN_ELSE) {
                openCount--;
                endChoice();
            } else {
                error = at;
            }
        }

        private void endChoice() {
            built.add(CHOICE, 0, 0);
            boolean otherwise = popOperand();
            boolean then = popOperand();
            popOperand();
            pushOperand(then && otherwise);
        }

        private void open(int kind, int at) {
            if (openCount >= 0 && openCount < MAX_TEXT) {
                opened[openCount] = kind;
                openedAt[openCount] = at;
                openCount++;
            }
            state = AT_FACTOR;
        }

        private int innermost() {
            return openCount > 0 && openCount <= MAX_TEXT ? opened[openCount - 1] : NOTHING;
        }

        /** Where what is inside the innermost open thing begins. */
        private int innermostBegin() {
            return openCount > 0 && openCount <= MAX_TEXT ? openedAt[openCount - 1] + 1 : 0;
        }

        private void pushOperand(boolean predicate) {
            if (operandCount >= 0 && operandCount < MAX_TEXT) {
                predicates[operandCount] = predicate;
                operandCount++;
            }
        }

        private boolean popOperand() {
            boolean top = topIsPredicate();
            if (operandCount > 0) {
                operandCount--;
            }
            return top;
        }

        private boolean topIsPredicate() {
            return operandCount > 0 && operandCount <= MAX_TEXT && predicates[operandCount - 1];
        }
    }

    /** The printed form of a policy: first how long each part is, then where it stands. */
    private static final class Printout {
        // A node has at most four bytes of its own and two parentheses around it.
        private static final int MAX_BYTES = 6 * MAX_SIZE;

        private final int[] bytes = new int[MAX_BYTES];
        // For each node the length with its parentheses, if it has some, and the place.
        private final int[] lengths = new int[MAX_SIZE];
        private final boolean[] wrapped = new boolean[MAX_SIZE];
        private final int[] places = new int[MAX_SIZE];
        private int total = 0;

        int byteCount() {
            return total;
        }

        int byteAt(int index) {
            return index >= 0 && index < total && index < MAX_BYTES ? bytes[index] : NONE;
        }

        void print(Policy policy) {
            int count = policy.nodeCount();
            if (count < 1 || count > MAX_SIZE) {
                total = 0;
                return;
            }
            for (int node = 0; node < count; node++) {
                wrapped[node] = false;
                lengths[node] = measured(policy, node);
            }
            total = lengths[count - 1];
            places[count - 1] = 0;
            // A node stands behind its operands, so that backwards each place is known in time.
            for (int node = count - 1; node >= 0; node--) {
                printNode(policy, node);
            }
        }

        /** The length of a node without parentheses; decides on those of its operands. */
        private int measured(Policy policy, int node) {
            int kind = policy.kindAt(node);
            int operands = Policy.operandsOf(kind);
            int length = ownLength(kind);
            for (int behind = 0; behind < operands; behind++) {
                int operand = policy.operandAt(node, behind);
                if (operand >= 0 && operand < MAX_SIZE) {
                    if (needsParentheses(kind, policy.kindAt(operand), behind == 0)) {
                        wrapped[operand] = true;
                        lengths[operand] += 2;
                    }
                    length += lengths[operand];
                }
            }
            return length;
        }

        private static int ownLength(int kind) {
            switch (kind) {
                case TEST:
                case ASSIGNMENT:
                    return 3;
                case CHOICE:
                    return 4;
                default:
                    return 1;
            }
        }

        private static boolean needsParentheses(int outer, int inner, boolean last) {
            switch (outer) {
                case UNION:
                    return last && inner == UNION;
                case SEQUENCE:
                    return inner == UNION || (last && inner == SEQUENCE);
                case REPETITION:
                    return inner == UNION || inner == SEQUENCE || inner == NEGATION;
                case NEGATION:
                    return inner == UNION || inner == SEQUENCE;
                default:
                    return false;
            }
        }

        private void printNode(Policy policy, int node) {
            int at = innerPlace(node);
            switch (policy.kindAt(node)) {
                case ZERO:
                    put(at, '0');
                    break;
                case ONE:
                    put(at, '1');
                    break;
                case TEST:
                    printLeaf(policy, node, '=');
                    break;
                case ASSIGNMENT:
                    printLeaf(policy, node, ':');
                    break;
                case UNION:
                    printPair(policy, node, '+');
                    break;
                case SEQUENCE:
                    printPair(policy, node, '.');
                    break;
                case REPETITION:
                    put(placed(policy.operandAt(node, 0), at), '*');
                    break;
                case NEGATION:
                    put(at, '!');
                    placed(policy.operandAt(node, 0), at + 1);
                    break;
                default:
                    printChoice(policy, node);
                    break;
            }
        }

        private void printLeaf(Policy policy, int node, int sign) {
            int at = innerPlace(node);
            put(at, 'x' + policy.fieldAt(node));
            put(at + 1, sign);
            put(at + 2, '0' + policy.valueAt(node));
        }

        private void printPair(Policy policy, int node, int sign) {
            int middle = placed(policy.operandAt(node, 1), innerPlace(node));
            put(middle, sign);
            placed(policy.operandAt(node, 0), middle + 1);
        }

        private void printChoice(Policy policy, int node) {
            int at = innerPlace(node);
            put(at, '[');
            int mark = placed(policy.operandAt(node, 2), at + 1);
            put(mark, '?');
            int bar = placed(policy.operandAt(node, 1), mark + 1);
            put(bar, '|');
            put(placed(policy.operandAt(node, 0), bar + 1), ']');
        }

        /** Gives a node its place, prints its parentheses, and answers where it ends. */
        private int placed(int node, int at) {
            if (node < 0 || node >= MAX_SIZE) {
                return at;
            }
            int end = at + lengths[node];
            places[node] = at;
            if (wrapped[node]) {
                put(at, '(');
                put(end - 1, ')');
            }
            return end;
        }

        private int innerPlace(int node) {
            if (node < 0 || node >= MAX_SIZE) {
                return 0;
            }
            return wrapped[node] ? places[node] + 1 : places[node];
        }

        private void put(int at, int letter) {
            if (at >= 0 && at < MAX_BYTES) {
                bytes[at] = letter;
            }
        }
    }

    /** Works out, node by node, into which packets a policy turns each packet. */
    private static final class Evaluator {
        private final long[] images = new long[MAX_SIZE * PACKETS];

        void evaluate(Policy policy, Relation relation) {
            int count = policy.nodeCount();
            for (int node = 0; node < count && node < MAX_SIZE; node++) {
                evaluateNode(policy, node);
            }
            for (int p = 0; p < PACKETS; p++) {
                relation.assign(p, imageOf(count - 1, p));
            }
        }

        private void evaluateNode(Policy policy, int node) {
            int last = policy.operandAt(node, 0);
            switch (policy.kindAt(node)) {
                case UNION:
                    unite(node, policy.operandAt(node, 1), last);
                    break;
                case SEQUENCE:
                    chain(node, policy.operandAt(node, 1), last);
                    break;
                case REPETITION:
                    repeat(node, last);
                    break;
                case NEGATION:
                    negate(node, last);
                    break;
                case CHOICE:
                    choose(node, policy.operandAt(node, 2), policy.operandAt(node, 1), last);
                    break;
                default:
                    evaluateLeaf(policy, node);
                    break;
            }
        }

        private void evaluateLeaf(Policy policy, int node) {
            int kind = policy.kindAt(node);
            int field = policy.fieldAt(node);
            int value = policy.valueAt(node);
            for (int p = 0; p < PACKETS; p++) {
                boolean passes = kind == ONE || (kind == TEST && valueOf(p, field) == value);
                int output = kind == ASSIGNMENT ? withValue(p, field, value) : p;
                assign(node, p, passes || kind == ASSIGNMENT ? alone(output) : 0L);
            }
        }

        private void unite(int node, int left, int right) {
            for (int p = 0; p < PACKETS; p++) {
                assign(node, p, imageOf(left, p) | imageOf(right, p));
            }
        }

        private void chain(int node, int left, int right) {
            for (int p = 0; p < PACKETS; p++) {
                assign(node, p, imageOfSet(images, right * PACKETS, imageOf(left, p)));
            }
        }

        /** Warshall's closure: lets the ways lead through one packet more at a time. */
        private void repeat(int node, int operand) {
            for (int p = 0; p < PACKETS; p++) {
                assign(node, p, imageOf(operand, p) | alone(p));
            }
            for (int via = 0; via < PACKETS; via++) {
                long onward = imageOf(node, via);
                for (int p = 0; p < PACKETS; p++) {
                    long image = imageOf(node, p);
                    if (holds(image, via)) {
                        assign(node, p, image | onward);
                    }
                }
            }
        }

        private void negate(int node, int operand) {
            for (int p = 0; p < PACKETS; p++) {
                assign(node, p, imageOf(operand, p) == 0L ? alone(p) : 0L);
            }
        }

        private void choose(int node, int condition, int then, int otherwise) {
            for (int p = 0; p < PACKETS; p++) {
                assign(node, p, imageOf(imageOf(condition, p) != 0L ? then : otherwise, p));
            }
        }

        private long imageOf(int node, int packet) {
            int at = node * PACKETS + packet;
            return at >= 0 && at < images.length ? images[at] : 0L;
        }

        private void assign(int node, int packet, long image) {
            int at = node * PACKETS + packet;
            if (at >= 0 && at < images.length) {
                images[at] = image;
            }
        }
    }

    /** For each packet the set of packets into which a policy turns it. */
    private static final class Relation {
        private final long[] images = new long[PACKETS];

        void assign(int packet, long image) {
            if (isPacket(packet)) {
                images[packet] = image;
            }
        }

        long imageOf(int packet) {
            return isPacket(packet) ? images[packet] : 0L;
        }

        /** The set of packets that are not turned into the empty set. */
        long domain() {
            long set = 0L;
            for (int p = 0; p < PACKETS; p++) {
                if (images[p] != 0L) {
                    set |= alone(p);
                }
            }
            return set;
        }

        int widest() {
            int most = 0;
            for (int p = 0; p < PACKETS; p++) {
                most = Math.max(most, Long.bitCount(images[p]));
            }
            return most;
        }

        int mostSteps() {
            int most = 0;
            for (int p = 0; p < PACKETS; p++) {
                most = Math.max(most, stepsFrom(p));
            }
            return most;
        }

        private int stepsFrom(int packet) {
            long reached = alone(packet);
            long edge = reached;
            int steps = -1;
            for (int k = 0; k <= PACKETS && edge != 0L; k++) {
                steps++;
                edge = imageOfSet(images, 0, edge) & ~reached;
                reached |= edge;
            }
            return steps;
        }

        /** 0 if equal, 1 if within the other, 2 if the other is within this, otherwise 3. */
        int orderTo(Relation other) {
            boolean within = true;
            boolean around = true;
            for (int p = 0; p < PACKETS; p++) {
                within = within && (images[p] & ~other.images[p]) == 0L;
                around = around && (other.images[p] & ~images[p]) == 0L;
            }
            if (within) {
                return around ? 0 : 1;
            }
            return around ? 2 : 3;
        }

        int firstUnlike(Relation other) {
            for (int p = 0; p < PACKETS; p++) {
                if (images[p] != other.images[p]) {
                    return p;
                }
            }
            return NONE;
        }
    }

    /** The canonical decision diagram: first all leaves, then the test nodes behind their children. */
    private static final class Diagram {
        private static final int MAX_NODES = 64 + 16 + 4 + 1;

        // An action set is two rows of bits: the actions 0 to 63, and those from 64 on.
        private final long[] lowActions = new long[PACKETS];
        private final long[] highActions = new long[PACKETS];
        private final int[] fields = new int[MAX_NODES];
        private final int[] depths = new int[MAX_NODES];
        private final int[] children = new int[MAX_NODES * VALUES];
        private int leafCount = 0;
        private int nodeCount = 0;
        private int root = 0;
        // The nodes that stand for the ways of one length, in the order of their packets.
        private final int[] layer = new int[PACKETS];
        private final int[] twins = new int[MAX_NODES];

        int nodeTotal() {
            return nodeCount;
        }

        int leafTotal() {
            return leafCount;
        }

        int longestWay() {
            return depthOf(root);
        }

        private int depthOf(int node) {
            return node >= 0 && node < MAX_NODES ? depths[node] : 0;
        }

        int rootNode() {
            return root;
        }

        boolean isLeaf(int node) {
            return node < leafCount;
        }

        int fieldOf(int node) {
            return node >= 0 && node < MAX_NODES ? fields[node] : 0;
        }

        int childOf(int node, int value) {
            int at = node * VALUES + value;
            return at >= 0 && at < children.length ? children[at] : 0;
        }

        void build(Relation relation) {
            leafCount = 0;
            for (int p = 0; p < PACKETS; p++) {
                layer[p] = leafFor(p, relation.imageOf(p));
            }
            nodeCount = leafCount;
            int groups = PACKETS / VALUES;
            for (int field = FIELDS - 1; field >= 0; field--) {
                for (int g = 0; g < groups; g++) {
                    layer[g] = nodeFor(field, g * VALUES);
                }
                groups /= VALUES;
            }
            root = layer[0];
        }

        private int leafFor(int packet, long outputs) {
            long low = 0L;
            long high = 0L;
            long rest = outputs;
            int packets = Long.bitCount(outputs);
            for (int k = 0; k < packets; k++) {
                int number = actionFrom(packet, lowestOf(rest));
                if (number < 64) {
                    low |= 1L << number;
                } else {
                    high |= 1L << (number - 64);
                }
                rest &= rest - 1L;
            }
            int leaf = leafWith(low, high);
            return leaf != NONE ? leaf : newLeaf(low, high);
        }

        private int leafWith(long low, long high) {
            for (int leaf = 0; leaf < leafCount && leaf < PACKETS; leaf++) {
                if (lowActions[leaf] == low && highActions[leaf] == high) {
                    return leaf;
                }
            }
            return NONE;
        }

        private int newLeaf(long low, long high) {
            if (leafCount >= PACKETS) {
                return 0;
            }
            lowActions[leafCount] = low;
            highActions[leafCount] = high;
            depths[leafCount] = 0;
            leafCount++;
            return leafCount - 1;
        }

        /** The node whose four children stand in the layer from a place on. */
        private int nodeFor(int field, int from) {
            if (from < 0 || from + 3 >= PACKETS) {
                return 0;
            }
            int a = layer[from];
            int b = layer[from + 1];
            int c = layer[from + 2];
            int d = layer[from + 3];
            if (a == b && a == c && a == d) {
                return a;
            }
            int node = testWith(field, a, b, c, d);
            return node != NONE ? node : newTest(field, from);
        }

        private int testWith(int field, int a, int b, int c, int d) {
            for (int node = leafCount; node < nodeCount && node < MAX_NODES; node++) {
                if (fields[node] == field && childOf(node, 0) == a && childOf(node, 1) == b
                        && childOf(node, 2) == c && childOf(node, 3) == d) {
                    return node;
                }
            }
            return NONE;
        }

        private int newTest(int field, int from) {
            if (nodeCount < 0 || nodeCount >= MAX_NODES) {
                return 0;
            }
            int deepest = 0;
            for (int v = 0; v < VALUES; v++) {
                int child = layer[from + v];
                children[nodeCount * VALUES + v] = child;
                deepest = Math.max(deepest, depthOf(child));
            }
            fields[nodeCount] = field;
            depths[nodeCount] = deepest + 1;
            nodeCount++;
            return nodeCount - 1;
        }

        /** The child that the most values have, and among equals that of the lowest value. */
        int mainChildOf(int node) {
            int main = childOf(node, 0);
            int most = 0;
            for (int v = 0; v < VALUES; v++) {
                int child = childOf(node, v);
                int values = valuesLeadingTo(node, child);
                if (values > most) {
                    most = values;
                    main = child;
                }
            }
            return main;
        }

        private int valuesLeadingTo(int node, int child) {
            int values = 0;
            for (int v = 0; v < VALUES; v++) {
                if (childOf(node, v) == child) {
                    values++;
                }
            }
            return values;
        }

        /** How many nodes of this diagram are equal to a node of the other one. */
        int twinsIn(Diagram other) {
            int found = 0;
            for (int node = 0; node < nodeCount && node < MAX_NODES; node++) {
                twins[node] = twinOf(node, other);
                if (twins[node] != NONE) {
                    found++;
                }
            }
            return found;
        }

        private int twinOf(int node, Diagram other) {
            if (node < leafCount && node < PACKETS) {
                return other.leafWith(lowActions[node], highActions[node]);
            }
            // A child without a twin is NONE, and no node has NONE as a child.
            return other.testWith(fieldOf(node), twinOfChild(node, 0), twinOfChild(node, 1),
                    twinOfChild(node, 2), twinOfChild(node, 3));
        }

        private int twinOfChild(int node, int value) {
            int child = childOf(node, value);
            return child >= 0 && child < MAX_NODES ? twins[child] : NONE;
        }

        boolean hasAction(int leaf, int number) {
            if (leaf < 0 || leaf >= PACKETS) {
                return false;
            }
            return number < 64 ? holds(lowActions[leaf], number) : holds(highActions[leaf], number - 64);
        }

        int actionTotal(int leaf) {
            if (leaf < 0 || leaf >= PACKETS) {
                return 0;
            }
            return Long.bitCount(lowActions[leaf]) + Long.bitCount(highActions[leaf]);
        }

        int actionAt(int leaf, int index) {
            int before = 0;
            for (int number = 0; number < ACTIONS; number++) {
                if (hasAction(leaf, number)) {
                    if (before == index) {
                        return number;
                    }
                    before++;
                }
            }
            return NONE;
        }
    }

    /** The ranked match-action table; a row's action set is a leaf of the diagram. */
    private static final class Table {
        private final int[] demands = new int[PACKETS];
        private final int[] rowLeaves = new int[PACKETS];
        private int rowCount = 0;

        int rowTotal() {
            return rowCount;
        }

        boolean hasRow(int row) {
            return row >= 0 && row < rowCount;
        }

        int demandsOf(int row) {
            return row >= 0 && row < PACKETS ? demands[row] : ALL_FREE;
        }

        int leafOf(int row) {
            return row >= 0 && row < PACKETS ? rowLeaves[row] : 0;
        }

        void build(Diagram diagram) {
            rowCount = 0;
            visit(this, diagram, diagram.rootNode(), ALL_FREE, 0);
            int kept = 0;
            for (int r = 0; r < rowCount && r < PACKETS; r++) {
                if (diagram.actionTotal(rowLeaves[r]) > 0) {
                    kept = r + 1;
                }
            }
            rowCount = kept;
        }

        private static void visit(Table table, Diagram diagram, int node, int demanded, int depth) {
            if (diagram.isLeaf(node)) {
                table.addRow(demanded, node);
                return;
            }
            if (depth >= FIELDS) {
                return;
            }
            int field = diagram.fieldOf(node);
            int main = diagram.mainChildOf(node);
            for (int v = 0; v < VALUES; v++) {
                int child = diagram.childOf(node, v);
                if (child != main) {
                    visit(table, diagram, child, demanded + (v - FREE) * weightOf(field), depth + 1);
                }
            }
            visit(table, diagram, main, demanded, depth + 1);
        }

        private void addRow(int demanded, int leaf) {
            if (rowCount < PACKETS) {
                demands[rowCount] = demanded;
                rowLeaves[rowCount] = leaf;
                rowCount++;
            }
        }

        int firstRowFor(int packet) {
            for (int r = 0; r < rowCount && r < PACKETS; r++) {
                if (meets(packet, demands[r])) {
                    return r;
                }
            }
            return NONE;
        }

        private static boolean meets(int packet, int demanded) {
            for (int f = 0; f < FIELDS; f++) {
                int entry = entryOf(demanded, f);
                if (entry != FREE && entry != valueOf(packet, f)) {
                    return false;
                }
            }
            return true;
        }
    }

    /** A policy with what follows from it, worked out when it is first asked for. */
    private static final class Slot {
        private final Policy policy = new Policy();
        private final Printout printout = new Printout();
        private final Relation relation = new Relation();
        private final Diagram diagram = new Diagram();
        private final Table table = new Table();
        private boolean fresh = false;

        Slot() {
            policy.add(ONE, 0, 0);
            policy.markPredicate(true);
        }

        void hold(Policy other) {
            policy.start();
            policy.addAll(other);
            policy.markPredicate(other.givesPredicate());
            fresh = false;
        }

        Slot upToDate(Evaluator evaluator) {
            if (!fresh) {
                printout.print(policy);
                evaluator.evaluate(policy, relation);
                diagram.build(relation);
                table.build(diagram);
                fresh = true;
            }
            return this;
        }

        Policy policy() {
            return policy;
        }

        Printout printout() {
            return printout;
        }

        Relation relation() {
            return relation;
        }

        Diagram diagram() {
            return diagram;
        }

        Table table() {
            return table;
        }
    }

    /** The saved states, oldest first: of each the slot that was changed and what it had held. */
    private static final class History {
        private final int[] changed = new int[MAX_SAVED];
        private final Policy[] before = new Policy[MAX_SAVED];
        private int saved = 0;

        History() {
            for (int i = 0; i < MAX_SAVED; i++) {
                before[i] = new Policy();
            }
        }

        int savedCount() {
            return saved;
        }

        void save(int slot, Policy policy) {
            if (saved >= MAX_SAVED) {
                dropOldest();
            }
            if (saved >= 0 && saved < MAX_SAVED) {
                changed[saved] = slot;
                before[saved].start();
                before[saved].addAll(policy);
                before[saved].markPredicate(policy.givesPredicate());
                saved++;
            }
        }

        private void dropOldest() {
            Policy oldest = before[0];
            for (int i = 1; i < MAX_SAVED; i++) {
                changed[i - 1] = changed[i];
                before[i - 1] = before[i];
            }
            before[MAX_SAVED - 1] = oldest;
            saved--;
        }

        /** The slot that the newest saved state restores, or NONE if there is no saved state. */
        int newestSlot() {
            return saved > 0 && saved <= MAX_SAVED ? changed[saved - 1] : NONE;
        }

        Policy newestPolicy() {
            return before[saved > 0 && saved <= MAX_SAVED ? saved - 1 : 0];
        }

        void dropNewest() {
            if (saved > 0) {
                saved--;
            }
        }
    }
}
