/** What the tests have in common: counting wrong answers, and typing a text into a compiler. */
final class Check {
    private static int wrong = 0;
    private static int answers = 0;

    private Check() {
    }

    /** Notes whether a call gave the answer that is due. */
    static void due(String call, long got, long want) {
        answers++;
        if (got != want) {
            wrong++;
            System.out.println(call + " answered " + got + ", due is " + want);
        }
    }

    static void that(String what, boolean holds) {
        due(what, holds ? 1 : 0, 1);
    }

    /** Replaces the policy text. */
    static void type(PolicyCompiler x, String text) {
        x.clearText();
        for (int i = 0; i < text.length(); i++) {
            due("append '" + text.charAt(i) + "' of " + text, x.append(text.charAt(i)), i + 1);
        }
    }

    /** Replaces the policy text and parses it into a slot. */
    static int parse(PolicyCompiler x, int slot, String text) {
        type(x, text);
        return x.parse(slot);
    }

    /** A new compiler whose slot 0 holds a policy. */
    static PolicyCompiler holding(String policy) {
        PolicyCompiler x = new PolicyCompiler();
        that("parse " + policy, parse(x, 0, policy) > 0);
        return x;
    }

    /** The printed form of the policy in a slot. */
    static String shown(PolicyCompiler x, int slot) {
        StringBuilder form = new StringBuilder();
        int length = x.printed(slot, -1);
        for (int i = 0; i < length; i++) {
            form.append((char) x.printed(slot, i));
        }
        return form.toString();
    }

    static void dueText(String call, String got, String want) {
        answers++;
        if (!got.equals(want)) {
            wrong++;
            System.out.println(call + " answered " + got + ", due is " + want);
        }
    }

    /** Ends the test: with exit code 1 if an answer was wrong or nothing was asked. */
    static void end() {
        System.out.println(answers + " answers, " + wrong + " wrong");
        if (wrong != 0 || answers == 0) {
            System.exit(1);
        }
    }
}
