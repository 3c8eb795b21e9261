import java.lang.reflect.Field;
import java.lang.reflect.Method;
import java.lang.reflect.Modifier;
import java.util.Set;
import java.util.TreeSet;

/** The public face: the document's members, and no other that is seen from outside. */
public final class FaceTest {
    private static final Set<String> FACE = Set.of(
            "int device(int, int)", "int thread()", "int step(int, int, int, int, int)",
            "boolean interrupt(int, int)", "boolean close(int, int)", "int run(int)", "int tell(int, int)",
            "int outcome(int, int, int)", "int state(int, int)", "int waiting(int, int)", "int passed(int, int)",
            "int stuck(int)");

    public static void main(String[] args) {
        Class<?> type = MeetingKit.class;
        Check.due("public and final", Modifier.isPublic(type.getModifiers()) && Modifier.isFinal(type.getModifiers()), true);
        Set<String> found = new TreeSet<>();
        for (Method method : type.getDeclaredMethods()) {
            if (!Modifier.isPrivate(method.getModifiers())) {
                found.add(signature(method));
            }
        }
        Check.due("methods: " + found, found.equals(FACE), true);
        for (Field field : type.getDeclaredFields()) {
            boolean isOpen = !Modifier.isPrivate(field.getModifiers());
            Check.due("field " + field.getName(), isOpen, field.getName().equals("NONE"));
        }
        Check.due("one constructor", type.getDeclaredConstructors().length, 1);
        Check.due("it is public", type.getConstructors().length, 1);
        for (Class<?> inside : type.getDeclaredClasses()) {
            int modifiers = inside.getModifiers();
            boolean isHidden = !Modifier.isPublic(modifiers) && !Modifier.isProtected(modifiers);
            Check.due("class " + inside.getName(), isHidden && Modifier.isStatic(modifiers), true);
        }
        Check.end("face");
    }

    private static String signature(Method method) {
        StringBuilder text = new StringBuilder(method.getReturnType().getName() + " " + method.getName() + "(");
        String gap = "";
        for (Class<?> type : method.getParameterTypes()) {
            text.append(gap).append(type.getName());
            gap = ", ";
        }
        return text.append(")").toString();
    }
}
