import java.lang.reflect.InvocationTargetException;
import java.lang.reflect.Method;
import java.lang.reflect.Modifier;
import java.util.HashMap;
import java.util.Map;

/**
 * One call, read from its text as the document writes it: copy(0, 0, 0, 3, 1, 0, 9). MIN and MAX
 * stand for the least and the greatest int.
 */
final class Call {
    private static final Map<String, Call> READ = new HashMap<>();
    private static final Map<String, Method> OF_CLASS = methodsOf(TwoEyes.class);
    private static final Map<String, Method> OF_MODEL = methodsOf(Model.class);

    private final String text;
    private final String name;
    private final Object[] arguments;

    private Call(String text) {
        this.text = text;
        int open = text.indexOf('(');
        name = text.substring(0, open);
        if (!OF_CLASS.containsKey(name)) {
            throw new IllegalArgumentException("there is no call " + name);
        }
        Class<?>[] types = OF_CLASS.get(name).getParameterTypes();
        String inside = text.substring(open + 1, text.length() - 1).trim();
        String[] words = inside.isEmpty() ? new String[0] : inside.split("\\s*,\\s*");
        if (words.length != types.length) {
            throw new IllegalArgumentException("another number of arguments is due: " + text);
        }
        arguments = new Object[words.length];
        for (int i = 0; i < words.length; i++) {
            arguments[i] = argument(words[i], types[i]);
        }
    }

    static Call of(String text) {
        return READ.computeIfAbsent(text, Call::new);
    }

    private static Map<String, Method> methodsOf(Class<?> type) {
        Map<String, Method> methods = new HashMap<>();
        for (Method method : type.getDeclaredMethods()) {
            if (!Modifier.isPrivate(method.getModifiers())) {
                methods.put(method.getName(), method);
            }
        }
        return methods;
    }

    private static Object argument(String word, Class<?> type) {
        if (type == boolean.class) {
            return truthValue(word);
        }
        return switch (word) {
            case "MIN" -> Integer.MIN_VALUE;
            case "MAX" -> Integer.MAX_VALUE;
            default -> Integer.valueOf(word);
        };
    }

    /** Boolean.valueOf would read any other word as false. */
    private static Boolean truthValue(String word) {
        return switch (word) {
            case "true" -> true;
            case "false" -> false;
            default -> throw new IllegalArgumentException("neither true nor false: " + word);
        };
    }

    /** The answer, a boolean as 1 or 0. */
    int on(TwoEyes eyes) {
        return answer(eyes, OF_CLASS.get(name));
    }

    int on(Model model) {
        return answer(model, OF_MODEL.get(name));
    }

    private int answer(Object target, Method method) {
        try {
            Object answer = method.invoke(target, arguments);
            return answer instanceof Boolean yes ? (yes ? 1 : 0) : (Integer) answer;
        } catch (InvocationTargetException thrown) {
            throw new IllegalStateException(text + " threw " + thrown.getCause());
        } catch (IllegalAccessException closed) {
            throw new IllegalStateException(closed);
        }
    }

    @Override
    public String toString() {
        return text;
    }
}
