import java.lang.reflect.Constructor;
import java.lang.reflect.Field;
import java.lang.reflect.Method;
import java.lang.reflect.Modifier;
import java.util.Set;
import java.util.TreeSet;

/** The public face is the one of the document, and nothing else can be seen from outside. */
public final class FaceTest {
    private static final Set<String> FACE = Set.of(
        "int BAD_ARG", "int FULL", "int TOO_FEW", "int NONE", "CourseMonitor()",
        "int fact(int)", "int not()", "int and()", "int or()", "int next()", "int until()", "int steps()",
        "int depth()", "void discard()", "int define()", "int step(int)", "int undo()", "void restart()",
        "int length()", "boolean holds()", "boolean heldAfter(int)", "boolean wouldHold(int)",
        "int wouldHoldWith()", "int soonest()", "int soonestNot()");

    public static void main(String[] args) {
        Class<CourseMonitor> c = CourseMonitor.class;
        Checks.due("public and final", c.getModifiers(), Modifier.PUBLIC | Modifier.FINAL);
        Set<String> seen = new TreeSet<>();
        Set<String> publicNames = new TreeSet<>();
        for (Field field : c.getDeclaredFields()) {
            boolean isStatic = Modifier.isStatic(field.getModifiers());
            Checks.due("static is final: " + field, !isStatic || Modifier.isFinal(field.getModifiers()), true);
            if (!Modifier.isPrivate(field.getModifiers())) {
                Checks.due("a constant: " + field, field.getModifiers(), Modifier.PUBLIC | Modifier.STATIC | Modifier.FINAL);
                seen.add(field.getType().getName() + " " + field.getName());
            }
        }
        for (Constructor<?> made : c.getDeclaredConstructors()) {
            Checks.due("public: " + made, made.getModifiers(), Modifier.PUBLIC);
            seen.add(made.getName() + types(made.getParameterTypes()));
        }
        for (Method method : c.getDeclaredMethods()) {
            if (!Modifier.isPrivate(method.getModifiers())) {
                Checks.due("public: " + method, method.getModifiers(), Modifier.PUBLIC);
                seen.add(method.getReturnType().getName() + " " + method.getName() + types(method.getParameterTypes()));
                publicNames.add(method.getName());
            }
        }
        for (Method method : c.getDeclaredMethods()) {
            boolean isPrivate = Modifier.isPrivate(method.getModifiers());
            Checks.due("own name: " + method, isPrivate && publicNames.contains(method.getName()), false);
        }
        Checks.due("the face, seen " + seen, seen.equals(FACE), true);
        Checks.finish();
    }

    private static String types(Class<?>[] parameters) {
        StringBuilder text = new StringBuilder("(");
        for (Class<?> parameter : parameters) {
            text.append(text.length() > 1 ? "," : "").append(parameter.getName());
        }
        return text.append(")").toString();
    }
}
