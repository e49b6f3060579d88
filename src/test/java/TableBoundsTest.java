import java.util.ArrayList;
import java.util.List;

/** The edges of the document's sentences on tables, and of promises 21 to 25. */
public final class TableBoundsTest {
    private static final String EVERYTHING =
            "(x:0+x:1+x:2+x:3).(y:0+y:1+y:2+y:3).(z:0+z:1+z:2+z:3)";
    private static final int MIN = Integer.MIN_VALUE;
    private static final int MAX = Integer.MAX_VALUE;
    private static final int[] NO_SLOTS = {-1, 4, 5, 64, -4, MIN, MAX};

    public static void main(String[] args) {
        tablesOfOneField();
        demandsOfEachField();
        sameNonMainChildTwice();
        matchIsExtended();
        tableWithoutARow();
        tableOfOneRow();
        fullTable();
        emptyRowsAtTheEnd();
        emptyRowsBeforeTheLast();
        packetsOfEachRow();
        packetThatHitsNoRow();
        matchOutOfRange();
        actionOutOfRange();
        actionsInAscendingOrder();
        hitOutOfRange();
        hitsOutOfRange();
        Check.end();
    }

    /** Row r as text: what it demands, its actions, and how many packets hit it. */
    private static String row(PolicyCompiler x, int r) {
        StringBuilder text = new StringBuilder();
        for (int f = 0; f < 3; f++) {
            text.append(x.match(0, r, f));
        }
        int actions = x.action(0, r, -1);
        for (int i = 0; i < actions; i++) {
            text.append(' ').append(x.action(0, r, i));
        }
        return text.append(" #").append(x.hits(0, r)).toString();
    }

    private static void dueTable(String policy, String... rows) {
        PolicyCompiler x = Check.holding(policy);
        Check.due("rows of " + policy, x.rows(0), rows.length);
        for (int r = 0; r < rows.length && r < x.rows(0); r++) {
            Check.dueText("row " + r + " of " + policy, row(x, r), rows[r]);
        }
        Check.due("match of the row behind the last of " + policy, x.match(0, rows.length, 0), -2);
    }

    /** What a part does to the packets with a value: 0 for nothing, 1 for keeping, from 2 on x:0 to x:3. */
    private static int actionOf(int part, int value, int weight) {
        return part == 0 ? -1 : part == 1 || part == value + 2 ? 124 : 124 + (part - 2 - 4) * weight;
    }

    /** All tables of diagrams with one test node, worked out from the actions of the four values. */
    private static void tablesOfOneField() {
        Check.sentence("At a test node, the main child is the child that the most values have (if several "
                + "children are equally frequent, the one among them that the lowest value has); first, for each "
                + "value in ascending order whose child is not the main child, the walk visits this child with "
                + "the match extended by this value of the field; then it visits the main child with the match "
                + "unchanged.");
        int[] weights = {25, 5, 1};
        for (int f = 0; f < 3; f++) {
            for (int code = 0; code < 6 * 6 * 6 * 6; code++) {
                int[] parts = {code / 216, code / 36 % 6, code / 6 % 6, code % 6};
                StringBuilder policy = new StringBuilder();
                int[] actions = new int[4];
                for (int v = 0; v < 4; v++) {
                    char letter = "xyz".charAt(f);
                    String part = parts[v] < 2 ? "" + parts[v] : letter + ":" + (parts[v] - 2);
                    policy.append(v == 0 ? "" : "+").append(letter).append('=').append(v).append('.').append(part);
                    actions[v] = actionOf(parts[v], v, weights[f]);
                }
                dueTable(policy.toString(), rowsOf(f, actions));
            }
        }
    }

    private static int frequency(int[] actions, int action) {
        int count = 0;
        for (int a : actions) {
            count += a == action ? 1 : 0;
        }
        return count;
    }

    private static String[] rowsOf(int field, int[] actions) {
        int main = 0;
        for (int v = 1; v < 4; v++) {
            if (frequency(actions, actions[v]) > frequency(actions, actions[main])) {
                main = v;
            }
        }
        List<String> rows = new ArrayList<>();
        int kept = 0;
        for (int v = 0; v < 4; v++) {
            if (actions[v] != actions[main]) {
                String demand = "444".substring(0, field) + v + "444".substring(field + 1);
                rows.add(demand + (actions[v] < 0 ? "" : " " + actions[v]) + " #16");
                kept = actions[v] < 0 ? kept : rows.size();
            }
        }
        if (actions[main] >= 0) {
            rows.add("444 " + actions[main] + " #" + 16 * frequency(actions, actions[main]));
            kept = rows.size();
        }
        return rows.subList(0, kept).toArray(new String[0]);
    }

    private static void demandsOfEachField() {
        Check.sentence("A row of a table has a match, which demands for each field a value or nothing, and an "
                + "action set.");
        for (int code = 0; code < 125; code++) {
            int[] demands = {code / 25, code / 5 % 5, code % 5};
            StringBuilder policy = new StringBuilder("1");
            int packets = 64;
            for (int f = 0; f < 3; f++) {
                if (demands[f] < 4) {
                    policy.append('.').append("xyz".charAt(f)).append('=').append(demands[f]);
                    packets /= 4;
                }
            }
            dueTable(policy.toString(), "" + demands[0] + demands[1] + demands[2] + " 124 #" + packets);
        }
    }

    private static void sameNonMainChildTwice() {
        Check.sentence("first, for each value in ascending order whose child is not the main child, the walk "
                + "visits this child with the match extended by this value of the field;");
        dueTable("x=2.y=1+x=3.y=1", "214 124 #4", "244 #12", "314 124 #4");
        dueTable("x=1.(y=1.z=1)+x=2.(y=1.z=1)", "111 124 #1", "114 #3", "144 #12", "211 124 #1");
    }

    private static void matchIsExtended() {
        Check.sentence("The table of a policy is made from the diagram by a walk that starts at the root with a "
                + "match that demands nothing.");
        dueTable("x=1.y=2.z=3", "123 124 #1");
        dueTable("x=1.z=3", "143 124 #4");
        dueTable("y=2.z=3", "423 124 #4");
        dueTable("!(x=1.y=2.z=3)", "123 #1", "124 124 #3", "144 124 #12", "444 124 #48");
        // The demand of one way does not stay for the next one.
        dueTable("x=0.y=1+x=1.z=1+x=2", "141 124 #4", "144 #12", "244 124 #16", "344 #16", "414 124 #4");
        dueTable("[x=3?[y=3?z:3|y:3]|x:3]", "333 124 #1", "334 123 #3", "344 119 #12", "444 99 #48");
    }

    private static void tableWithoutARow() {
        Check.sentence("OUT_OF_RANGE if slot is out of range or there is no such row.");
        for (String policy : new String[] {"0", "!1", "x=1.x=2", "x:1.x=2", EVERYTHING + ".0"}) {
            PolicyCompiler x = Check.holding(policy);
            Check.due("rows of " + policy, x.rows(0), 0);
            for (int row : new int[] {0, -1, 1, 63, 64, MIN, MAX}) {
                Check.due("match(0, " + row + ", 0)", x.match(0, row, 0), -2);
                Check.due("action(0, " + row + ", 0)", x.action(0, row, 0), -2);
                Check.due("action(0, " + row + ", -1)", x.action(0, row, -1), -2);
                Check.due("hits(0, " + row + ")", x.hits(0, row), -2);
            }
            Check.due("errorCount(-2)", x.errorCount(-2), 28);
            for (int p = 0; p < 64; p++) {
                Check.due("hit(0, " + p + ")", x.hit(0, p), -1);
            }
            Check.due("NONE is not counted", x.errorCount(-2), 28);
        }
    }

    private static void tableOfOneRow() {
        Check.sentence("Returns the number of rows;");
        for (String policy : new String[] {"1", "!0", "x=0*", "x=3+!x=3"}) {
            dueTable(policy, "444 124 #64");
        }
        PolicyCompiler x = new PolicyCompiler();
        Check.due("rows(3)", x.rows(3), 1);
        Check.due("match(3, 0, 0)", x.match(3, 0, 0), 4);
        Check.due("match(3, 1, 0)", x.match(3, 1, 0), -2);
        Check.due("match(3, -1, 0)", x.match(3, -1, 0), -2);
        Check.due("hits(3, 1)", x.hits(3, 1), -2);
        for (int slot : NO_SLOTS) {
            Check.due("rows(" + slot + ")", x.rows(slot), -2);
        }
        Check.due("errorCount(-2)", x.errorCount(-2), 3 + NO_SLOTS.length);
    }

    private static void fullTable() {
        Check.sentence("Returns the number of rows;");
        PolicyCompiler x = Check.holding(EVERYTHING);
        Check.due("rows(0)", x.rows(0), 64);
        Check.dueText("row 0 without its actions", "" + x.match(0, 0, 0) + x.match(0, 0, 1) + x.match(0, 0, 2), "111");
        Check.due("the last row", x.match(0, 63, 0) + x.match(0, 63, 1) + x.match(0, 63, 2), 12);
        Check.due("hits(0, 63)", x.hits(0, 63), 1);
        Check.due("hit(0, 0)", x.hit(0, 0), 63);
        Check.due("hit(0, 21)", x.hit(0, 21), 0);
        Check.due("action(0, 63, 63)", x.action(0, 63, 63), 124);
        Check.due("action(0, 63, 64)", x.action(0, 63, 64), -1);
        Check.due("errorCount(-2)", x.errorCount(-2), 0);
        Check.due("match(0, 64, 0)", x.match(0, 64, 0), -2);
        Check.due("action(0, 64, 0)", x.action(0, 64, 0), -2);
        Check.due("hits(0, 64)", x.hits(0, 64), -2);
        Check.due("errorCount(-2)", x.errorCount(-2), 3);
        // One empty row less than full: the last one, and the first one.
        Check.due("rows without the last", Check.holding("!(x=0.y=0.z=0)." + EVERYTHING).rows(0), 63);
        Check.due("rows with an empty first", Check.holding("!(x=1.y=1.z=1)." + EVERYTHING).rows(0), 64);
    }

    private static void emptyRowsAtTheEnd() {
        Check.sentence("Finally, all rows at the end of the table whose action sets are empty are removed, up to "
                + "the last row with an action set that is not empty.");
        dueTable("x=1", "144 124 #16");
        dueTable("x=1.y=1", "114 124 #4");
        dueTable("x=1.y=1.z=1", "111 124 #1");
        // Rows 1, 2 and 3 and the last one: four empty rows.
        dueTable("x=1.y=2.z=3+x=0.x=1", "123 124 #1");
        dueTable("x=0+x=1", "244 #16", "344 #16", "444 124 #32");
        dueTable("x=2+x=3", "244 124 #16", "344 124 #16");
        // The last row that remains is in the last possible place, and in the first one.
        dueTable("!x=1", "144 #16", "444 124 #48");
        dueTable("x=0.y=0.z=0", "000 124 #1");
        dueTable("x=3.y=3.z=3", "333 124 #1");
    }

    private static void emptyRowsBeforeTheLast() {
        Check.sentence("Finally, all rows at the end of the table whose action sets are empty are removed, up to "
                + "the last row with an action set that is not empty.");
        dueTable("x=1.y=1+x=3", "114 124 #4", "144 #12", "344 124 #16");
        dueTable("x=0.y=1.z=1+x=3", "011 124 #1", "014 #3", "044 #12", "344 124 #16");
        dueTable("x=0.y=1.z=1+x=3.y=1.z=1", "144 #16", "244 #16", "411 124 #2");
        dueTable("!(x=0.y=0.z=0)", "000 #1", "004 124 #3", "044 124 #12", "444 124 #48");
        PolicyCompiler x = Check.holding("!(x=0.y=0.z=0)");
        Check.due("a packet on an empty row", x.hit(0, 0), 0);
        Check.due("the number of its actions", x.action(0, 0, -1), 0);
        Check.due("its first action", x.action(0, 0, 0), -1);
        Check.due("its action 124", x.action(0, 0, 124), -1);
        Check.due("errorCount(-2)", x.errorCount(-2), 0);
    }

    /** Each packet's row has its actions, and the rows' numbers of packets make up all of them. */
    private static void packetsOfEachRow() {
        Check.sentence("A packet hits the first row whose demands it meets.");
        String[] policies = {"x=1.y:2+x=2.(y:0+y:3)", "!(x=1.y=2.z=3)", "(x=0.y:1+y=1.z:2)*", "[x=0?y=1|z=1]",
            "x:1+y:1+z:1", "x=0+y=0+z=0", EVERYTHING + ".!x=1", "x=0.y=1+x=3"};
        for (String policy : policies) {
            PolicyCompiler x = Check.holding(policy);
            int[] hits = new int[x.rows(0) + 1];
            for (int p = 0; p < 64; p++) {
                int row = x.hit(0, p);
                int actions = row < 0 ? 0 : x.action(0, row, -1);
                hits[row < 0 ? x.rows(0) : row]++;
                Check.due("actions of packet " + p + " of " + policy, actions, Long.bitCount(x.outputs(0, p)));
            }
            for (int r = 0; r < x.rows(0); r++) {
                Check.due("hits(0, " + r + ") of " + policy, x.hits(0, r), hits[r]);
            }
        }
    }

    private static void packetThatHitsNoRow() {
        Check.sentence("A packet that hits no row is dropped (it has the empty action set).");
        PolicyCompiler x = Check.holding("x=1.y:2", "x=3.y=3.z=3", "x=0.y=0.z=0", "!(x=0.y=0.z=0)");
        for (int p = 0; p < 64; p++) {
            Check.due("hit(0, " + p + ")", x.hit(0, p), p / 16 != 1 ? -1 : p / 4 % 4 == 2 ? 0 : 1);
            Check.due("hit(1, " + p + ")", x.hit(1, p), p == 63 ? 0 : -1);
            Check.due("hit(2, " + p + ")", x.hit(2, p), p == 0 ? 0 : -1);
            Check.due("hit(3, " + p + ")", x.hit(3, p), p == 0 ? 0 : p < 4 ? 1 : p < 16 ? 2 : 3);
        }
        Check.due("NONE is not counted", x.errorCount(-2), 0);
    }

    private static void matchOutOfRange() {
        Check.sentence("Returns the demanded value, or 4 if nothing is demanded; OUT_OF_RANGE if slot or field is "
                + "out of range or there is no such row.");
        PolicyCompiler x = Check.holding("x=1.y=2");
        int[] demands = {1, 2, 4};
        for (int f = 0; f < 3; f++) {
            Check.due("match(0, 0, " + f + ")", x.match(0, 0, f), demands[f]);
        }
        int errors = 0;
        for (int field : new int[] {-1, 3, 4, -3, 64, MIN, MAX}) {
            Check.due("match(0, 0, " + field + ")", x.match(0, 0, field), -2);
            Check.due("match(0, 1, " + field + ")", x.match(0, 1, field), -2);
            errors += 2;
        }
        for (int row : new int[] {-1, 1, 2, 63, 64, 1 << 30, MIN, MAX}) {
            Check.due("match(0, " + row + ", 0)", x.match(0, row, 0), -2);
            Check.due("match(0, " + row + ", 2)", x.match(0, row, 2), -2);
            errors += 2;
        }
        for (int slot : NO_SLOTS) {
            Check.due("match(" + slot + ", 0, 0)", x.match(slot, 0, 0), -2);
            Check.due("match(" + slot + ", 9, 9)", x.match(slot, 9, 9), -2);
            errors += 2;
        }
        Check.due("errorCount(-2)", x.errorCount(-2), errors);
    }

    private static void actionOutOfRange() {
        Check.sentence("Returns the action, 0 to 124, or the number of actions if index is -1; NONE if there are "
                + "not so many actions; OUT_OF_RANGE if slot is out of range, there is no such row, or index is "
                + "less than -1.");
        PolicyCompiler x = Check.holding("x=3.y=3.z=3.(x:0.y:0.z:0+1)");
        Check.due("action(0, 0, -1)", x.action(0, 0, -1), 2);
        Check.due("action(0, 0, 0)", x.action(0, 0, 0), 0);
        Check.due("action(0, 0, 1)", x.action(0, 0, 1), 124);
        for (int index : new int[] {2, 3, 64, 124, 125, MAX}) {
            Check.due("action(0, 0, " + index + ")", x.action(0, 0, index), -1);
        }
        Check.due("NONE is not counted", x.errorCount(-2), 0);
        int errors = 0;
        for (int index : new int[] {-2, -3, -64, MIN}) {
            Check.due("action(0, 0, " + index + ")", x.action(0, 0, index), -2);
            Check.due("action(0, 1, " + index + ")", x.action(0, 1, index), -2);
            errors += 2;
        }
        for (int row : new int[] {-1, 1, 2, 63, 64, 1 << 30, MIN, MAX}) {
            for (int index : new int[] {-1, 0, 2, MAX}) {
                Check.due("action(0, " + row + ", " + index + ")", x.action(0, row, index), -2);
                errors++;
            }
        }
        for (int slot : NO_SLOTS) {
            for (int index : new int[] {-2, -1, 0, 2, MAX}) {
                Check.due("action(" + slot + ", 0, " + index + ")", x.action(slot, 0, index), -2);
                errors++;
            }
        }
        Check.due("errorCount(-2)", x.errorCount(-2), errors);
    }

    private static void actionsInAscendingOrder() {
        Check.sentence("`index`: index of the action in ascending order of the numbers of the actions, from 0, or "
                + "-1 for the number of actions");
        // The actions on both sides of 63 and 64, of 0 and of 124.
        PolicyCompiler x = Check.holding("x=3.y=3.z=3.(1+x:2.y:2.z:3+x:2.y:2.z:2+x:2.z:0+x:0.y:0.z:0+x:2.y:2.z:1)");
        int[] actions = {0, 61, 62, 64, 70, 124};
        Check.due("action(0, 0, -1)", x.action(0, 0, -1), actions.length);
        for (int i = 0; i < actions.length; i++) {
            Check.due("action(0, 0, " + i + ")", x.action(0, 0, i), actions[i]);
        }
        PolicyCompiler y = Check.holding("x=3.y=2.z=0.(x:2.y:3.z:0+x:2.y:2+x:2.y:2.z:3+x:2.y:3.z:3+x:2.y:3.z:1)");
        int[] others = {66, 68, 69, 73, 74};
        for (int i = 0; i < others.length; i++) {
            Check.due("action(0, 0, " + i + ")", y.action(0, 0, i), others[i]);
        }
        // For packet (0, 0, 0) each of the 64 actions has the entries 1 to 4.
        PolicyCompiler all = Check.holding("x=0.y=0.z=0." + EVERYTHING);
        for (int i = 0; i < 64; i++) {
            int want = 25 * (i / 16 + 1) + 5 * (i / 4 % 4 + 1) + i % 4 + 1;
            Check.due("action(0, 0, " + i + ") of all", all.action(0, 0, i), want);
        }
        Check.due("action(0, 0, -1) of all", all.action(0, 0, -1), 64);
        Check.due("action(0, 0, 64) of all", all.action(0, 0, 64), -1);
    }

    private static void hitOutOfRange() {
        Check.sentence("Returns the index of the row; NONE if it hits none; OUT_OF_RANGE if an argument is out of "
                + "range.");
        PolicyCompiler x = Check.holding("x=0.y=0.z=0+x=3.y=3.z=3");
        Check.due("hit(0, 0)", x.hit(0, 0), 0);
        Check.due("hit(0, 1)", x.hit(0, 1), 1);
        Check.due("hit(0, 4)", x.hit(0, 4), 2);
        Check.due("hit(0, 16)", x.hit(0, 16), -1);
        Check.due("hit(0, 63)", x.hit(0, 63), 3);
        Check.due("hit(0, 62)", x.hit(0, 62), -1);
        int errors = 0;
        for (int packet : new int[] {-1, 64, 65, 127, -64, 1 << 26, MIN, MAX}) {
            for (int slot : new int[] {0, 3, -1, 4}) {
                Check.due("hit(" + slot + ", " + packet + ")", x.hit(slot, packet), -2);
                errors++;
            }
        }
        for (int slot : NO_SLOTS) {
            Check.due("hit(" + slot + ", 0)", x.hit(slot, 0), -2);
            Check.due("hit(" + slot + ", 63)", x.hit(slot, 63), -2);
            errors += 2;
        }
        Check.due("errorCount(-2)", x.errorCount(-2), errors);
    }

    private static void hitsOutOfRange() {
        Check.sentence("Returns the number of packets; OUT_OF_RANGE if slot is out of range or there is no such row.");
        PolicyCompiler x = Check.holding("x=3.y=3.z=3", "1");
        Check.due("hits(0, 0)", x.hits(0, 0), 1);
        Check.due("hits(1, 0)", x.hits(1, 0), 64);
        int errors = 0;
        for (int row : new int[] {-1, 1, 2, 63, 64, 1 << 30, MIN, MAX}) {
            Check.due("hits(0, " + row + ")", x.hits(0, row), -2);
            Check.due("hits(1, " + row + ")", x.hits(1, row), -2);
            errors += 2;
        }
        for (int slot : NO_SLOTS) {
            Check.due("hits(" + slot + ", 0)", x.hits(slot, 0), -2);
            Check.due("hits(" + slot + ", -1)", x.hits(slot, -1), -2);
            errors += 2;
        }
        Check.due("errorCount(-2)", x.errorCount(-2), errors);
    }
}
