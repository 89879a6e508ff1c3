import java.lang.reflect.InvocationTargetException;
import java.lang.reflect.Method;
import java.util.List;
import java.util.regex.Matcher;
import java.util.regex.Pattern;

/** The examples, read out of the document: each call answers, or throws, as is printed there. */
final class ExamplesTest {
    private static final Pattern CALL =
        Pattern.compile("(\\w+)\\(([^)]*)\\) = (?:throws (\\w+)|(-?\\d+))");

    public static void main(String[] args) {
        List<String> examples = Doc.examples();
        Checks.due("the number of examples", 5, examples::size);
        for (String example : examples) {
            calls(example);
        }
        Checks.end();
    }

    private static void calls(String example) {
        DischargeRecorder x = new DischargeRecorder();
        Matcher call = CALL.matcher(example);
        int made = 0;
        while (call.find()) {
            String name = call.group(1);
            String arguments = call.group(2);
            String due = call.group(3) != null ? call.group(3) : call.group(4);
            Checks.due(example.substring(0, 2) + " " + name + "(" + arguments + ")", due,
                () -> answer(x, name, arguments));
            made++;
        }
        int seen = made;
        Checks.due("the calls of: " + example, example.split(" = ").length - 1, () -> seen);
    }

    private static Object answer(DischargeRecorder x, String name, String arguments) {
        String[] texts = arguments.isEmpty() ? new String[0] : arguments.split(", ");
        Object[] values = new Object[texts.length];
        for (int i = 0; i < texts.length; i++) {
            boolean number = texts[i].matches("-?\\d+");
            values[i] = number ? (Object) Integer.valueOf(texts[i]) : Boolean.valueOf(texts[i]);
        }
        try {
            return method(name, values.length).invoke(x, values);
        } catch (InvocationTargetException e) {
            if (e.getCause() instanceof RuntimeException thrown) {
                throw thrown;
            }
            throw new UnsupportedOperationException(name + " failed", e);
        } catch (IllegalAccessException e) {
            throw new UnsupportedOperationException(name + " cannot be called", e);
        }
    }

    private static Method method(String name, int parameters) {
        for (Method method : DischargeRecorder.class.getMethods()) {
            if (method.getName().equals(name) && method.getParameterCount() == parameters) {
                return method;
            }
        }
        throw new UnsupportedOperationException("there is no " + name);
    }
}
