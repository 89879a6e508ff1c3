import java.lang.reflect.Constructor;
import java.lang.reflect.Field;
import java.lang.reflect.Method;
import java.lang.reflect.Modifier;
import java.util.ArrayList;
import java.util.List;
import java.util.TreeSet;

/**
 * The public face, as the document prints it in one piece and before each promise, and nothing else
 * that can be seen from outside.
 */
final class FaceTest {
    public static void main(String[] args) {
        Class<?> face = DischargeRecorder.class;
        Checks.due("the class", "public final", () -> Modifier.toString(face.getModifiers()));
        Checks.due("NONE", -1, () -> DischargeRecorder.NONE);
        Checks.due("the document's face", 28, () -> Doc.face().size());
        Checks.due("the methods", printed(Doc.face()), () -> methods(face));
        Checks.due("the methods of the promises", printed(Doc.signatures()), () -> methods(face));
        Checks.due("the promises", 27, () -> Doc.signatures().size());
        Checks.due("the constructors", "[public()]", () -> constructors(face));
        Checks.due("the constructor is printed", true, () ->
            Doc.face().contains("public DischargeRecorder()")
                && Doc.signatures().contains("DischargeRecorder()"));
        Checks.due("the constants", "[public static final int NONE]", () -> fields(face));
        Checks.due("the constant is printed", true, () ->
            Doc.face().contains("public static final int NONE = -1"));
        for (Class<?> inner : face.getDeclaredClasses()) {
            int modifiers = inner.getModifiers();
            Checks.due("the class " + inner.getSimpleName(), true, () ->
                Modifier.isStatic(modifiers) && !Modifier.isPublic(modifiers)
                    && !Modifier.isProtected(modifiers));
        }
        Checks.end();
    }

    /** The methods that the document prints, as methods() tells those of the class. */
    private static TreeSet<String> printed(List<String> lines) {
        TreeSet<String> found = new TreeSet<>();
        for (String line : lines) {
            String plain = line.replaceFirst("^public ", "");
            if (!plain.startsWith("static ") && !plain.startsWith("DischargeRecorder(")) {
                found.add(plain.replaceAll("(?<=[(, ])(int|boolean) \\w+(?=[,)])", "$1")
                    .replaceFirst(" throws ", " ").replaceAll("Exception, ", "Exception "));
            }
        }
        return found;
    }

    private static TreeSet<String> methods(Class<?> face) {
        TreeSet<String> seen = new TreeSet<>();
        for (Method method : face.getDeclaredMethods()) {
            if (!Modifier.isPrivate(method.getModifiers())) {
                StringBuilder text = new StringBuilder();
                text.append(Modifier.toString(method.getModifiers())).append(' ');
                text.append(method.getReturnType()).append(' ').append(method.getName());
                text.append(types(method.getParameterTypes()));
                for (Class<?> type : method.getExceptionTypes()) {
                    text.append(' ').append(type.getSimpleName());
                }
                seen.add(text.toString().replaceFirst("^public ", ""));
            }
        }
        return seen;
    }

    private static String types(Class<?>[] types) {
        List<String> names = new ArrayList<>();
        for (Class<?> type : types) {
            names.add(type.getSimpleName());
        }
        return "(" + String.join(", ", names) + ")";
    }

    private static List<String> constructors(Class<?> face) {
        List<String> seen = new ArrayList<>();
        for (Constructor<?> made : face.getDeclaredConstructors()) {
            seen.add(Modifier.toString(made.getModifiers()) + types(made.getParameterTypes()));
        }
        return seen;
    }

    private static List<String> fields(Class<?> face) {
        List<String> seen = new ArrayList<>();
        for (Field field : face.getDeclaredFields()) {
            if (!Modifier.isPrivate(field.getModifiers())) {
                seen.add(Modifier.toString(field.getModifiers()) + " " + field.getType() + " "
                    + field.getName());
            }
        }
        return seen;
    }
}
