import java.lang.reflect.Constructor;
import java.lang.reflect.Field;
import java.lang.reflect.Method;
import java.lang.reflect.Modifier;
import java.util.ArrayList;
import java.util.List;
import java.util.TreeSet;

/** The public face, as the document prints it, and nothing else that can be seen from outside. */
final class FaceTest {
    private static final List<String> DUE = List.of(
        "int set(int, int) IllegalArgumentException",
        "int value(int) IllegalArgumentException",
        "int block(int, int) IllegalArgumentException IllegalStateException",
        "int unblock()",
        "int record(int, int, int) IllegalArgumentException IllegalStateException",
        "int forget(int) IllegalArgumentException",
        "int append(int) IllegalArgumentException IllegalStateException",
        "int clearText()",
        "int parse()",
        "int pulses()",
        "int pulse(int, int) IndexOutOfBoundsException IllegalArgumentException",
        "int statuses(int) IllegalArgumentException",
        "int count(int, int) IllegalArgumentException",
        "int fullest(int, int) IllegalArgumentException",
        "long feature(int, int, int, int) IllegalArgumentException",
        "double asymmetry(int, int) IllegalArgumentException",
        "int pattern(int, int) IllegalArgumentException",
        "int similarity(int, int, int, int) IllegalArgumentException",
        "int bursts()",
        "long burst(int, int) IndexOutOfBoundsException IllegalArgumentException",
        "long interval(int, int) IndexOutOfBoundsException IllegalArgumentException",
        "int firstAlarm(boolean)",
        "int statusesWith(int, int, int, int, int) IllegalArgumentException",
        "int levelFor(int) IllegalArgumentException",
        "int undo() IllegalStateException",
        "long digest()");

    public static void main(String[] args) {
        Class<?> face = DischargeRecorder.class;
        Checks.due("the class", "public final", () -> Modifier.toString(face.getModifiers()));
        Checks.due("NONE", -1, () -> DischargeRecorder.NONE);
        Checks.due("the methods", new TreeSet<>(DUE), () -> methods(face));
        Checks.due("the constructors", "[public()]", () -> constructors(face));
        Checks.due("the constants", "[public static final int NONE]", () -> fields(face));
        for (Class<?> inner : face.getDeclaredClasses()) {
            int modifiers = inner.getModifiers();
            Checks.due("the class " + inner.getSimpleName(), true, () ->
                Modifier.isStatic(modifiers) && !Modifier.isPublic(modifiers)
                    && !Modifier.isProtected(modifiers));
        }
        Checks.end();
    }

    private static TreeSet<String> methods(Class<?> face) {
        TreeSet<String> seen = new TreeSet<>();
        for (Method method : face.getDeclaredMethods()) {
            if (!Modifier.isPrivate(method.getModifiers())) {
                StringBuilder text = new StringBuilder();
                text.append(Modifier.toString(method.getModifiers())).append(' ');
                text.append(method.getReturnType()).append(' ').append(method.getName());
                text.append(types(method.getParameterTypes()));
                for (Class<?> type : method.getExceptionTypes()) {
                    text.append(' ').append(type.getSimpleName());
                }
                seen.add(text.toString().replaceFirst("^public ", ""));
            }
        }
        return seen;
    }

    private static String types(Class<?>[] types) {
        List<String> names = new ArrayList<>();
        for (Class<?> type : types) {
            names.add(type.getSimpleName());
        }
        return "(" + String.join(", ", names) + ")";
    }

    private static List<String> constructors(Class<?> face) {
        List<String> seen = new ArrayList<>();
        for (Constructor<?> made : face.getDeclaredConstructors()) {
            seen.add(Modifier.toString(made.getModifiers()) + types(made.getParameterTypes()));
        }
        return seen;
    }

    private static List<String> fields(Class<?> face) {
        List<String> seen = new ArrayList<>();
        for (Field field : face.getDeclaredFields()) {
            if (!Modifier.isPrivate(field.getModifiers())) {
                seen.add(Modifier.toString(field.getModifiers()) + " " + field.getType() + " "
                    + field.getName());
            }
        }
        return seen;
    }
}
