import java.util.regex.Matcher;
import java.util.regex.Pattern;

/** Calls that are written as the document writes its examples: append(120) = 1; parse(0) = -10. */
final class Script {
    private static final Pattern CALL = Pattern.compile("(\\w+)\\(([^()]*)\\) = (-?\\d+)");

    private Script() {
    }

    /** Makes the calls, and notes which answers are not those that stand behind them. */
    static void run(PolicyCompiler x, String calls) {
        for (String call : calls.split(";")) {
            Matcher parts = CALL.matcher(call.trim());
            if (parts.matches()) {
                Check.due(parts.group(1) + "(" + parts.group(2) + ")",
                        answer(x, parts.group(1), parts.group(2)), Long.parseLong(parts.group(3)));
            } else {
                Check.that("a call and its answer: " + call, false);
            }
        }
    }

    /** Makes the calls on a new object, a policy of which stands in each slot from slot 0 on. */
    static void holding(String calls, String... policies) {
        run(Check.holding(policies), calls);
    }

    /** Makes one call: the arguments are numbers, constants of the class, or a sign in quotes. */
    static long answer(PolicyCompiler x, String name, String arguments) {
        String[] words = arguments.isEmpty() ? new String[0] : arguments.split(", ");
        Class<?>[] types = new Class<?>[words.length];
        Object[] values = new Object[words.length];
        try {
            for (int i = 0; i < words.length; i++) {
                types[i] = int.class;
                values[i] = number(words[i]);
            }
            return ((Number) PolicyCompiler.class.getMethod(name, types).invoke(x, values)).longValue();
        } catch (ReflectiveOperationException e) {
            throw new IllegalStateException("no call: " + name + "(" + arguments + ")", e);
        }
    }

    private static int number(String word) throws ReflectiveOperationException {
        if (word.length() == 3 && word.startsWith("'") && word.endsWith("'")) {
            return word.charAt(1);
        }
        if (word.startsWith("PolicyCompiler.")) {
            return PolicyCompiler.class.getField(word.substring(15)).getInt(null);
        }
        return Integer.parseInt(word);
    }
}
