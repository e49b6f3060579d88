import java.lang.reflect.Constructor;
import java.lang.reflect.Field;
import java.lang.reflect.Member;
import java.lang.reflect.Method;
import java.lang.reflect.Modifier;
import java.util.TreeSet;

/** The public face is that of the document, and nothing beside it can be seen (LANGUAGE.md, 1). */
public final class FaceTest {
    private static final String[] METHODS = {"int append(int)", "int clearText()", "int parse(int)",
        "int combine(int,int,int,int)", "int modify(int,int,int)", "int size(int)",
        "int isPredicate(int)", "int printed(int,int)", "long outputs(int,int)", "long accepted(int)",
        "int spread(int)", "int rounds(int)", "int compare(int,int)", "int witness(int,int)",
        "int difference(int,int)", "int diagramSize(int)", "int leaves(int)", "int diagramDepth(int)",
        "int sharedNodes(int,int)", "int rows(int)", "int match(int,int,int)", "int action(int,int,int)",
        "int hit(int,int)", "int hits(int,int)", "int undo()", "int errorCount(int)", "long digest()"};

    public static void main(String[] args) {
        constants();
        members();
        privateNames();
        Check.end();
    }

    private static void constants() {
        Check.sentence("`OUT_OF_RANGE = -2`: An argument is not in its range.");
        Check.due("OUT_OF_RANGE", PolicyCompiler.OUT_OF_RANGE, -2);
        Check.sentence("`NOT_A_PREDICATE = -3`: The policy is not a predicate.");
        Check.due("NOT_A_PREDICATE", PolicyCompiler.NOT_A_PREDICATE, -3);
        Check.sentence("`TOO_LARGE = -4`: The policy would have a size greater than 60.");
        Check.due("TOO_LARGE", PolicyCompiler.TOO_LARGE, -4);
        Check.sentence("`FULL = -5`: There is no more room.");
        Check.due("FULL", PolicyCompiler.FULL, -5);
        Check.sentence("`NOTHING_SAVED = -6`: There is no saved state.");
        Check.due("NOTHING_SAVED", PolicyCompiler.NOTHING_SAVED, -6);
        Check.sentence("`NONE = -1`: There is no such thing.");
        Check.due("NONE", PolicyCompiler.NONE, -1);
    }

    private static boolean isPrivate(Member member) {
        return Modifier.isPrivate(member.getModifiers());
    }

    private static void members() {
        Check.sentence("public final class PolicyCompiler {");
        Class<?> face = PolicyCompiler.class;
        Check.that("the class is public and final",
                Modifier.isPublic(face.getModifiers()) && Modifier.isFinal(face.getModifiers()));
        TreeSet<String> methods = new TreeSet<>();
        for (Method method : face.getDeclaredMethods()) {
            if (!isPrivate(method)) {
                Check.that(method + " is public", Modifier.isPublic(method.getModifiers()));
                String signature = method.toString().replace("PolicyCompiler.", "");
                methods.add(signature.replace("public ", ""));
            }
        }
        Check.dueText("methods", methods.toString(), new TreeSet<>(java.util.List.of(METHODS)).toString());
        TreeSet<String> fields = new TreeSet<>();
        for (Field field : face.getDeclaredFields()) {
            if (!isPrivate(field)) {
                fields.add(field.toString().replace("PolicyCompiler.", ""));
            }
        }
        String constant = "public static final int ";
        Check.dueText("constants", fields.toString(), "[" + constant + "FULL, " + constant + "NONE, "
                + constant + "NOTHING_SAVED, " + constant + "NOT_A_PREDICATE, " + constant
                + "OUT_OF_RANGE, " + constant + "TOO_LARGE]");
        for (Constructor<?> constructor : face.getDeclaredConstructors()) {
            Check.dueText("constructor", constructor.toString(), "public PolicyCompiler()");
        }
    }

    /** No method inside bears the name of a public one, and every class inside is static. */
    private static void privateNames() {
        TreeSet<String> names = new TreeSet<>();
        for (String method : METHODS) {
            names.add(method.substring(method.indexOf(' ') + 1, method.indexOf('(')));
        }
        for (Method method : PolicyCompiler.class.getDeclaredMethods()) {
            Check.that(method + " has a name of its own", !isPrivate(method) || !names.contains(method.getName()));
        }
        for (Class<?> inside : PolicyCompiler.class.getDeclaredClasses()) {
            Check.that(inside + " is static", Modifier.isStatic(inside.getModifiers()));
            for (Method method : inside.getDeclaredMethods()) {
                Check.that(method + " has a name of its own", !names.contains(method.getName()));
            }
        }
        Check.that("at most twelve classes", PolicyCompiler.class.getDeclaredClasses().length < 12);
    }
}
