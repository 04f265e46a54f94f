import java.lang.reflect.Constructor;
import java.lang.reflect.Field;
import java.lang.reflect.Method;
import java.lang.reflect.Modifier;
import java.util.Set;
import java.util.TreeSet;

/** The document's public face: just these constants, this constructor and these methods, and nothing else to see. */
public final class PublicFaceTest {
    private static final Set<String> FACE = Set.of(
        "int BAD_ARG", "int FULL", "int TOO_FEW", "int NONE",
        "PairExpressions()",
        "int pair(int,int)", "int cat()", "int alt()", "int star()", "int turn()",
        "int steps()", "int depth()", "void discard()", "int define()",
        "boolean related(int,int,int,int)", "int images(int,int)", "int image(int,int,int)",
        "int sources(int,int)", "int pairs()", "int domain()", "int manyValued()", "int fixed()", "int twoSteps()");

    public static void main(String[] args) {
        Check check = new Check("PublicFaceTest");
        check.due("BAD_ARG", PairExpressions.BAD_ARG, -1);
        check.due("FULL", PairExpressions.FULL, -2);
        check.due("TOO_FEW", PairExpressions.TOO_FEW, -3);
        check.due("NONE", PairExpressions.NONE, -4);

        Set<String> seen = visibleMembers();
        for (String member : FACE) {
            check.due("has " + member, seen.contains(member), true);
        }
        for (String member : seen) {
            check.due("shows " + member, FACE.contains(member), true);
        }
        int modifiers = PairExpressions.class.getModifiers();
        check.due("the class is public", Modifier.isPublic(modifiers), true);
        check.due("the class is final", Modifier.isFinal(modifiers), true);
        check.due("nested classes", PairExpressions.class.getDeclaredClasses().length, 0);
        check.end();
    }

    private static Set<String> visibleMembers() {
        Set<String> seen = new TreeSet<>();
        for (Field field : PairExpressions.class.getDeclaredFields()) {
            if (!Modifier.isPrivate(field.getModifiers())) {
                seen.add(visibility(field.getModifiers(), true) + field.getType() + " " + field.getName());
            }
        }
        for (Constructor<?> made : PairExpressions.class.getDeclaredConstructors()) {
            seen.add(visibility(made.getModifiers(), false) + "PairExpressions" + parameters(made.getParameterTypes()));
        }
        for (Method method : PairExpressions.class.getDeclaredMethods()) {
            if (!Modifier.isPrivate(method.getModifiers())) {
                seen.add(visibility(method.getModifiers(), false)
                    + method.getReturnType() + " " + method.getName() + parameters(method.getParameterTypes()));
            }
        }
        return seen;
    }

    /** Empty for what the face asks, so that any other kind of member stands out. */
    private static String visibility(int modifiers, boolean constant) {
        int asked = Modifier.PUBLIC | (constant ? Modifier.STATIC | Modifier.FINAL : 0);
        return modifiers == asked ? "" : Modifier.toString(modifiers) + " ";
    }

    private static String parameters(Class<?>[] types) {
        StringBuilder text = new StringBuilder("(");
        for (Class<?> type : types) {
            text.append(text.length() > 1 ? "," : "").append(type);
        }
        return text.append(")").toString();
    }
}
