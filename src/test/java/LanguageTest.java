import java.io.IOException;
import java.nio.file.Files;
import java.nio.file.Path;
import java.util.regex.Matcher;
import java.util.regex.Pattern;

/** Looks through the program's text for what ../shared/LANGUAGE.md rules out, or it does without. */
public final class LanguageTest {
    private static final String[] FORBIDDEN = {"throw", "throws", "try", "catch", "finally",
        "synchronized", "assert", "import", "package", "protected", "volatile", "transient", "native",
        "strictfp", "goto", "extends", "Object", "equals", "hashCode", "toString", "String", "Thread",
        "Random", "nanoTime", "currentTimeMillis", "Class", "var", "yield", "instanceof", "null",
        "while"};

    public static void main(String[] args) throws IOException {
        String program = Files.readString(Path.of("src/main/java/PolicyCompiler.java"));
        String code = withoutComments(program);
        for (String word : FORBIDDEN) {
            Check.that("no word " + word, !Pattern.compile("\\b" + word + "\\b").matcher(code).find());
        }
        Check.that("no lambda and no method reference", !code.contains("->") && !code.contains("::"));
        Check.that("no annotation", !code.contains("@"));
        Check.that("only signs 1 to 127", program.chars().allMatch(c -> c > 0 && c < 128));
        onlyTheNamedLibrary(code);
        shortMethods(code);
        fewParameters(code);
        arraysOnlyInFields(code);
        Check.end();
    }

    private static String withoutComments(String program) {
        return program.replaceAll("(?s)/\\*.*?\\*/", "").replaceAll("//[^\n]*", "");
    }

    private static void onlyTheNamedLibrary(String code) {
        Matcher call = Pattern.compile("\\b(Integer|Long|Math|System|Arrays)\\.(\\w+)").matcher(code);
        while (call.find()) {
            String name = call.group();
            Check.that(name + " is in the library", name.equals("Long.bitCount") || name.equals("Math.max"));
        }
    }

    private static void shortMethods(String code) {
        int begin = -1;
        String[] lines = code.split("\n");
        for (int i = 0; i < lines.length; i++) {
            if (lines[i].matches(" {4}( {4})?[^ ].*\\) \\{")) {
                begin = i;
            } else if (lines[i].matches(" {4}( {4})?\\}") && begin >= 0) {
                Check.that("a method of at most 60 lines: " + lines[begin].trim(), i - begin < 60);
                begin = -1;
            }
        }
    }

    private static void fewParameters(String code) {
        Matcher method = Pattern.compile("\\w+ \\w+\\(([^()]*)\\) \\{").matcher(code);
        while (method.find()) {
            Check.that("at most seven parameters: " + method.group(), method.group(1).split(",").length <= 7);
        }
    }

    /** Rows are made with their owner and used again: 'new' stands in fields and in constructors only. */
    private static void arraysOnlyInFields(String code) {
        for (String line : code.split("\n")) {
            if (line.contains("new ")) {
                Check.that("made once: " + line.trim(), line.contains("private final ")
                        || line.contains("slots[s] = new Slot()") || line.contains("before[i] = new Policy()"));
            }
        }
    }
}
