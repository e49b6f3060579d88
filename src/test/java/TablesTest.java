/** Promises 21 to 25: rows, match, action, hit and hits. */
public final class TablesTest {
    private static final String EVERYTHING =
            "(x:0+x:1+x:2+x:3).(y:0+y:1+y:2+y:3).(z:0+z:1+z:2+z:3)";

    public static void main(String[] args) {
        simpleTables();
        mainChild();
        emptyRows();
        nestedTable();
        fullTable();
        tableOfALaterPolicy();
        promise21Errors();
        promise22Errors();
        promise23Errors();
        promise24Errors();
        promise25Errors();
        Check.end();
    }

    private static void simpleTables() {
        Check.dueTable("0");
        Check.dueTable("1", "--- 124 #64");
        Check.dueTable("x:1", "1-- 124 #16", "--- 49 #48");
        Check.dueTable("y:0", "-0- 124 #16", "--- 104 #48");
        Check.dueTable("z:3", "--3 124 #16", "--- 123 #48");
        Check.dueTable("x=1.y:2", "12- 124 #4", "1-- 114 #12");
        Check.dueTable("x:1+1", "1-- 124 #16", "--- 49,124 #48");
        PolicyCompiler x = Check.holding("x=1.y:2");
        Check.due("hit(0, 24)", x.hit(0, 24), 0);
        Check.due("hit(0, 20)", x.hit(0, 20), 1);
        Check.due("hit(0, 0)", x.hit(0, 0), -1);
        Check.due("hit(0, 63)", x.hit(0, 63), -1);
    }

    private static void mainChild() {
        // Two and two: the child of the lowest value is the main child.
        Check.dueTable("x=0+x=1", "2-- #16", "3-- #16", "--- 124 #32");
        Check.dueTable("x=0+x=3", "1-- #16", "2-- #16", "--- 124 #32");
        Check.dueTable("x=2+x=3", "2-- 124 #16", "3-- 124 #16");
        // The most frequent child wins over that of the lowest value.
        Check.dueTable("x=1+x=2+x=3", "0-- #16", "--- 124 #48");
        Check.dueTable("x=1+x=2.z:0+x=3", "0-- #16", "2-0 124 #4", "2-- 120 #12", "--- 124 #32");
        // Four different children: the lowest value has the main child.
        Check.dueTable("x=1+x=2.z:0+x=3.y:0", "1-- 124 #16", "2-0 124 #4", "2-- 120 #12", "30- 124 #4",
                "3-- 104 #12");
        Check.dueTable("x:0+x:1", "0-- 49,124 #16", "1-- 24,124 #16", "--- 24,49 #32");
    }

    private static void emptyRows() {
        // Several empty rows at the end are removed, those before the last row that acts stay.
        Check.dueTable("x=1.y=1.z=1", "111 124 #1");
        Check.dueTable("x=0.y=1+x=3", "01- 124 #4", "0-- #12", "3-- 124 #16");
        Check.dueTable("!x=2", "2-- #16", "--- 124 #48");
        Check.dueTable("!(x=2.y=2)", "22- #4", "2-- 124 #12", "--- 124 #48");
        Check.dueTable("x=1.x=2");
        PolicyCompiler x = Check.holding("!x=2");
        Check.due("a packet can hit an empty row", x.hit(0, 32), 0);
        Check.due("its number of actions", x.action(0, 0, -1), 0);
        Check.due("its first action", x.action(0, 0, 0), -1);
    }

    private static void nestedTable() {
        Check.dueTable("[x=0?y:1|z:2]", "01- 124 #4", "0-- 109 #12", "--2 124 #12", "--- 122 #36");
        PolicyCompiler x = Check.holding("[x=0?y:1|z:2]");
        Check.due("hit(0, 4)", x.hit(0, 4), 0);
        Check.due("hit(0, 6)", x.hit(0, 6), 0);
        Check.due("hit(0, 2)", x.hit(0, 2), 1);
        Check.due("hit(0, 62)", x.hit(0, 62), 2);
        Check.due("hit(0, 16)", x.hit(0, 16), 3);
    }

    private static void fullTable() {
        PolicyCompiler x = Check.holding(EVERYTHING);
        Check.due("rows(0)", x.rows(0), 64);
        // Each node has four different children; the main child, that of value 0, is the last.
        for (int p = 0; p < 64; p++) {
            if (p % 16 == 0) {
                x = Check.holding(EVERYTHING);
            }
            int row = 16 * ((p / 16 + 3) % 4) + 4 * ((p / 4 + 3) % 4) + (p + 3) % 4;
            Check.due("hit(0, " + p + ")", x.hit(0, p), row);
            Check.due("hits(0, " + row + ")", x.hits(0, row), 1);
            Check.due("match of x", x.match(0, row, 0), p / 16 == 0 ? 4 : p / 16);
            Check.due("match of y", x.match(0, row, 1), p / 4 % 4 == 0 ? 4 : p / 4 % 4);
            Check.due("match of z", x.match(0, row, 2), p % 4 == 0 ? 4 : p % 4);
            Check.due("actions", x.action(0, row, -1), 64);
            Check.due("the last action", x.action(0, row, 63), 124);
            Check.due("no more actions", x.action(0, row, 64), -1);
        }
        // Row 0 is packet (1, 1, 1): the entries of its actions are 0, 2, 3 and 4.
        int[] entries = {0, 2, 3, 4};
        for (int i = 0; i < 64; i++) {
            int want = 25 * entries[i / 16] + 5 * entries[i / 4 % 4] + entries[i % 4];
            Check.due("action(0, 0, " + i + ")", x.action(0, 0, i), want);
        }
        Check.due("action(0, 63, 0)", x.action(0, 63, 0), 31);
    }

    private static void tableOfALaterPolicy() {
        PolicyCompiler x = Check.holding(EVERYTHING);
        Check.due("rows(0)", x.rows(0), 64);
        Check.due("rows(1)", x.rows(1), 1);
        Check.parse(x, 0, "x=1");
        Check.due("rows(0) after parse", x.rows(0), 1);
        Check.due("match(0, 1, 0) after parse", x.match(0, 1, 0), -2);
        Check.due("hit(0, 0) after parse", x.hit(0, 0), -1);
        x.undo();
        Check.due("match(0, 63, 0) after undo()", x.match(0, 63, 0), 4);
        Check.due("action(0, 63, -1) after undo()", x.action(0, 63, -1), 64);
        x.modify(0, 1, 0);
        Check.due("hits(0, 0) after modify", x.hits(0, 0), 64);
    }

    private static void promise21Errors() {
        PolicyCompiler x = new PolicyCompiler();
        Check.due("rows(-1)", x.rows(-1), -2);
        Check.due("rows(4)", x.rows(4), -2);
        Check.due("rows(max)", x.rows(Integer.MAX_VALUE), -2);
        Check.due("errorCount(-2)", x.errorCount(-2), 3);
    }

    private static void promise22Errors() {
        PolicyCompiler x = new PolicyCompiler();
        Check.due("match(0, 0, 2)", x.match(0, 0, 2), 4);
        Check.due("match(-1, 0, 0)", x.match(-1, 0, 0), -2);
        Check.due("match(4, 0, 0)", x.match(4, 0, 0), -2);
        Check.due("match(0, -1, 0)", x.match(0, -1, 0), -2);
        Check.due("match(0, 1, 0)", x.match(0, 1, 0), -2);
        Check.due("match(0, max, 0)", x.match(0, Integer.MAX_VALUE, 0), -2);
        Check.due("match(0, 0, -1)", x.match(0, 0, -1), -2);
        Check.due("match(0, 0, 3)", x.match(0, 0, 3), -2);
        Check.due("errorCount(-2)", x.errorCount(-2), 7);
        Check.parse(x, 0, "0");
        Check.due("a table without rows", x.match(0, 0, 0), -2);
    }

    private static void promise23Errors() {
        PolicyCompiler x = new PolicyCompiler();
        Check.due("action(0, 0, 0)", x.action(0, 0, 0), 124);
        Check.due("action(0, 0, 1)", x.action(0, 0, 1), -1);
        Check.due("action(0, 0, max)", x.action(0, 0, Integer.MAX_VALUE), -1);
        Check.due("action(-1, 0, 0)", x.action(-1, 0, 0), -2);
        Check.due("action(4, 0, 0)", x.action(4, 0, 0), -2);
        Check.due("action(0, -1, 0)", x.action(0, -1, 0), -2);
        Check.due("action(0, 1, 0)", x.action(0, 1, 0), -2);
        Check.due("action(0, 1, -1)", x.action(0, 1, -1), -2);
        Check.due("action(0, 0, -2)", x.action(0, 0, -2), -2);
        Check.due("action(0, 0, min)", x.action(0, 0, Integer.MIN_VALUE), -2);
        Check.due("errorCount(-2)", x.errorCount(-2), 7);
    }

    private static void promise24Errors() {
        PolicyCompiler x = new PolicyCompiler();
        Check.due("hit(3, 0)", x.hit(3, 0), 0);
        Check.due("hit(3, 63)", x.hit(3, 63), 0);
        Check.due("hit(-1, 0)", x.hit(-1, 0), -2);
        Check.due("hit(4, 0)", x.hit(4, 0), -2);
        Check.due("hit(0, -1)", x.hit(0, -1), -2);
        Check.due("hit(0, 64)", x.hit(0, 64), -2);
        Check.due("errorCount(-2)", x.errorCount(-2), 4);
    }

    private static void promise25Errors() {
        PolicyCompiler x = new PolicyCompiler();
        Check.due("hits(3, 0)", x.hits(3, 0), 64);
        Check.due("hits(-1, 0)", x.hits(-1, 0), -2);
        Check.due("hits(4, 0)", x.hits(4, 0), -2);
        Check.due("hits(0, -1)", x.hits(0, -1), -2);
        Check.due("hits(0, 1)", x.hits(0, 1), -2);
        Check.due("hits(0, 64)", x.hits(0, 64), -2);
        Check.due("errorCount(-2)", x.errorCount(-2), 5);
    }
}
