import java.io.IOException;
import java.lang.reflect.Method;
import java.lang.reflect.Modifier;
import java.nio.file.Files;
import java.nio.file.Path;
import java.util.ArrayList;
import java.util.List;
import java.util.regex.Matcher;
import java.util.regex.Pattern;

/** Each call that README.md shows, with the answer that it shows. */
public final class ReadmeTest {
    private static final Path README = Path.of("README.md");
    private static final Path OWN_TEXT = Path.of("src/test/java/ReadmeTest.java");
    private static final String NEW_OBJECT = "PolicyCompiler x = new PolicyCompiler();";
    private static final Pattern TYPED = Pattern.compile("type\\(x, \"([^\"]*)\"\\);");
    private static final Pattern CALL = Pattern.compile("x\\.(\\w+)\\(([^()]*)\\); +// (-?\\d+)(: .*)?");

    public static void main(String[] args) throws IOException {
        String readme = Files.readString(README);
        List<String> blocks = javaBlocks(readme);
        Check.that("README.md shows calls", blocks.size() > 1);
        for (String block : blocks) {
            if (block.startsWith("static void type(")) {
                ownMethod(block);
            } else {
                calls(block);
            }
        }
        everyMethodIsShown(String.join("", blocks));
        constants(readme);
        Check.end();
    }

    private static List<String> javaBlocks(String readme) {
        List<String> blocks = new ArrayList<>();
        Matcher block = Pattern.compile("(?s)```java\n(.*?)```").matcher(readme);
        while (block.find()) {
            blocks.add(block.group(1));
        }
        return blocks;
    }

    private static void calls(String block) {
        String[] lines = block.split("\n");
        Check.dueText("the first line of a block", lines[0], NEW_OBJECT);
        PolicyCompiler x = new PolicyCompiler();
        for (int i = 1; i < lines.length; i++) {
            Matcher typed = TYPED.matcher(lines[i]);
            Matcher call = CALL.matcher(lines[i]);
            if (typed.matches()) {
                type(x, typed.group(1));
            } else if (call.matches()) {
                Check.due("README.md: " + lines[i], Script.answer(x, call.group(1), call.group(2)),
                        Long.parseLong(call.group(3)));
            } else {
                Check.that("README.md shows a call: " + lines[i], false);
            }
        }
    }

    /** The method that README.md shows is the one that types here. */
    private static void ownMethod(String block) throws IOException {
        Check.that("the method of README.md", oneLine(Files.readString(OWN_TEXT)).contains(oneLine(block)));
    }

    private static String oneLine(String text) {
        return text.replaceAll("\\s+", " ");
    }

    static void type(PolicyCompiler x, String policy) {
        x.clearText();
        for (int i = 0; i < policy.length(); i++) {
            x.append(policy.charAt(i));
        }
    }

    private static void everyMethodIsShown(String shown) {
        for (Method method : PolicyCompiler.class.getDeclaredMethods()) {
            if (Modifier.isPublic(method.getModifiers())) {
                Check.that("README.md shows " + method.getName(), shown.contains("x." + method.getName() + "("));
            }
        }
    }

    private static void constants(String readme) {
        Matcher row = Pattern.compile("\\| `([A-Z_]+)` \\| (-\\d+) \\|").matcher(readme);
        int rows = 0;
        while (row.find()) {
            Check.due(row.group(1), constant(row.group(1)), Long.parseLong(row.group(2)));
            rows++;
        }
        Check.due("constants in the table", rows, 5);
        Check.due("NONE", PolicyCompiler.NONE, readme.contains("`NONE`, which is -1,") ? -1 : 0);
    }

    private static int constant(String name) {
        try {
            return PolicyCompiler.class.getField(name).getInt(null);
        } catch (ReflectiveOperationException e) {
            throw new IllegalStateException(e);
        }
    }
}
