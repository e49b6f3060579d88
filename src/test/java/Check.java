import java.io.IOException;
import java.io.UncheckedIOException;
import java.nio.file.Files;
import java.nio.file.Path;

/** What the tests have in common: counting wrong answers, and typing a text into a compiler. */
final class Check {
    private static int wrong = 0;
    private static int answers = 0;
    private static String sentence = "";
    private static String document = "";

    private Check() {
    }

    /** Notes whether a call gave the answer that is due. */
    static void due(String call, long got, long want) {
        answers++;
        if (got != want) {
            fault(call + " answered " + got + ", due is " + want);
        }
    }

    static void that(String what, boolean holds) {
        due(what, holds ? 1 : 0, 1);
    }

    static void dueText(String call, String got, String want) {
        answers++;
        if (!got.equals(want)) {
            fault(call + " answered " + got + ", due is " + want);
        }
    }

    private static void fault(String what) {
        wrong++;
        System.out.println(what + (sentence.isEmpty() ? "" : " (" + sentence + ")"));
    }

    /** Quotes what the document says and the answers from here on show; a wrong one names it. */
    static void sentence(String quote) {
        sentence = "";
        that("the document says: " + quote, document().contains(quote));
        sentence = quote;
    }

    /** The document with one blank between any two words. */
    static String document() {
        if (document.isEmpty()) {
            try {
                document = Files.readString(Path.of("../shared/DOC.md")).replaceAll("\\s+", " ");
            } catch (IOException e) {
                throw new UncheckedIOException(e);
            }
        }
        return document;
    }

    /** Replaces the policy text. */
    static void type(PolicyCompiler x, String text) {
        x.clearText();
        for (int i = 0; i < text.length(); i++) {
            due("append '" + text.charAt(i) + "' of " + text, x.append(text.charAt(i)), i + 1);
        }
    }

    /** Replaces the policy text and parses it into a slot. */
    static int parse(PolicyCompiler x, int slot, String text) {
        type(x, text);
        return x.parse(slot);
    }

    /** A new compiler whose slots, from slot 0 on, hold policies. */
    static PolicyCompiler holding(String... policies) {
        PolicyCompiler x = new PolicyCompiler();
        for (int s = 0; s < policies.length; s++) {
            that("parse " + policies[s], parse(x, s, policies[s]) > 0);
        }
        return x;
    }

    /** What a new compiler answers when it parses a text. */
    static int parsed(String text) {
        return parse(new PolicyCompiler(), 0, text);
    }

    /** The printed form of the policy in a slot. */
    static String shown(PolicyCompiler x, int slot) {
        StringBuilder form = new StringBuilder();
        int length = x.printed(slot, -1);
        for (int i = 0; i < length; i++) {
            form.append((char) x.printed(slot, i));
        }
        return form.toString();
    }

    /** A row of a table as text: what it demands of x, y and z, its actions, and how many packets hit it. */
    static String row(PolicyCompiler x, int slot, int row) {
        StringBuilder text = new StringBuilder();
        for (int f = 0; f < 3; f++) {
            int demand = x.match(slot, row, f);
            text.append(demand == 4 ? "-" : "" + demand);
        }
        int actions = x.action(slot, row, -1);
        for (int i = 0; i < actions; i++) {
            text.append(i == 0 ? " " : ",").append(x.action(slot, row, i));
        }
        due("the action behind the last", x.action(slot, row, actions), -1);
        return text.append(" #").append(x.hits(slot, row)).toString();
    }

    /** Notes whether a policy has this table; what is not one of its rows must be out of range. */
    static void dueTable(String text, String... rows) {
        PolicyCompiler x = holding(text);
        due("rows of " + text, x.rows(0), rows.length);
        for (int r = 0; r < rows.length && r < x.rows(0); r++) {
            dueText("row " + r + " of " + text, row(x, 0, r), rows[r]);
        }
        due("a row behind the last", x.match(0, rows.length, 0), -2);
    }

    /** Ends the test: with exit code 1 if an answer was wrong or nothing was asked. */
    static void end() {
        System.out.println(answers + " answers, " + wrong + " wrong");
        if (wrong != 0 || answers == 0) {
            System.exit(1);
        }
    }
}
