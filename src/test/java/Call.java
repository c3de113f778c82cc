import java.lang.reflect.InvocationTargetException;
import java.lang.reflect.Method;
import java.util.HashMap;
import java.util.Map;

/**
 * One call, read from its text as the document writes it: copy(0, 0, 0, 3, 1, 0, 9). MIN and MAX
 * stand for the least and the greatest int.
 */
final class Call {
    private static final Map<String, Call> READ = new HashMap<>();

    private final String text;
    private final Method method;
    private final Object[] arguments;

    private Call(String text) {
        this.text = text;
        int open = text.indexOf('(');
        method = methodOf(text.substring(0, open));
        String inside = text.substring(open + 1, text.length() - 1).trim();
        String[] words = inside.isEmpty() ? new String[0] : inside.split("\\s*,\\s*");
        if (words.length != method.getParameterCount()) {
            throw new IllegalArgumentException("another number of arguments is due: " + text);
        }
        arguments = new Object[words.length];
        for (int i = 0; i < words.length; i++) {
            arguments[i] = argument(words[i], method.getParameterTypes()[i]);
        }
    }

    static Call of(String text) {
        return READ.computeIfAbsent(text, Call::new);
    }

    private static Method methodOf(String name) {
        for (Method method : TwoEyes.class.getMethods()) {
            if (method.getName().equals(name)) {
                return method;
            }
        }
        throw new IllegalArgumentException("there is no call " + name);
    }

    private static Object argument(String word, Class<?> type) {
        if (type == boolean.class) {
            return Boolean.valueOf(word);
        }
        return switch (word) {
            case "MIN" -> Integer.MIN_VALUE;
            case "MAX" -> Integer.MAX_VALUE;
            default -> Integer.valueOf(word);
        };
    }

    /** The answer, a boolean as 1 or 0. */
    int on(TwoEyes eyes) {
        try {
            Object answer = method.invoke(eyes, arguments);
            return answer instanceof Boolean yes ? (yes ? 1 : 0) : (Integer) answer;
        } catch (InvocationTargetException thrown) {
            throw new IllegalStateException(text + " threw " + thrown.getCause());
        } catch (IllegalAccessException closed) {
            throw new IllegalStateException(closed);
        }
    }
}
