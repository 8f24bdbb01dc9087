import java.lang.reflect.Method;
import java.lang.reflect.Modifier;
import java.util.regex.Matcher;
import java.util.regex.Pattern;

/** Calls that stand in a text, such as append(0, 1), made on an object. */
final class Calls {
    private static final Pattern CALL = Pattern.compile("(\\w+)\\(((?:-?\\d+(?:, )?)*)\\)");

    private Calls() {
    }

    /** Makes the call and asks for its answer; a text that is no call of the class is a fault. */
    static void due(AbelianPowers x, String call, String answer) {
        Matcher matcher = CALL.matcher(call);
        Method method = matcher.matches() ? method(matcher.group(1)) : null;
        Due.that(call + " is a call of the class", method != null);
        if (method != null) {
            Due.same(call, answer(x, method, matcher.group(2)), answer);
        }
    }

    private static Method method(String name) {
        for (Method method : AbelianPowers.class.getDeclaredMethods()) {
            if (Modifier.isPublic(method.getModifiers()) && method.getName().equals(name)) {
                return method;
            }
        }
        return null;
    }

    private static String answer(AbelianPowers x, Method method, String arguments) {
        String[] texts = arguments.isEmpty() ? new String[0] : arguments.split(", ");
        Class<?>[] types = method.getParameterTypes();
        if (texts.length != types.length) {
            return "a call with another number of arguments";
        }
        Object[] values = new Object[texts.length];
        for (int i = 0; i < values.length; i++) {
            long value = Long.parseLong(texts[i]);
            if (types[i] == int.class) {
                values[i] = (int) value;
            } else {
                values[i] = value;
            }
        }
        try {
            return String.valueOf(method.invoke(x, values));
        } catch (ReflectiveOperationException e) {
            return String.valueOf(e.getCause());
        }
    }
}
