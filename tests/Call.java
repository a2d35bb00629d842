import java.lang.reflect.InvocationTargetException;
import java.lang.reflect.Method;
import java.lang.reflect.Modifier;
import java.util.HashMap;
import java.util.Map;
import java.util.Set;

/** A call, read from its text: join(1, 0, -1). */
final class Call {
    static final String THROWS = "throws.";

    private static final Map<String, Method> FACE = face();

    private static final Set<String> LOOKS = Set.of("isIn", "memberships", "owner", "right", "rightByWalking",
        "holders", "reads", "readers", "keeper", "day", "active", "openShare", "meanOwned");

    private final String text;
    private final Method method;
    private final Object[] arguments;

    private Call(String text, Method method, Object[] arguments) {
        this.text = text;
        this.method = method;
        this.arguments = arguments;
    }

    private static Map<String, Method> face() {
        Map<String, Method> face = new HashMap<>();
        for (Method one : FolderKeeper.class.getDeclaredMethods()) {
            if (Modifier.isPublic(one.getModifiers())) {
                face.put(one.getName(), one);
            }
        }
        return face;
    }

    static Call of(String text) {
        int open = text.indexOf('(');
        if (open < 0 || !text.endsWith(")")) {
            throw new IllegalArgumentException("this is no call: " + text);
        }
        Method method = FACE.get(text.substring(0, open));
        if (method == null) {
            throw new IllegalArgumentException("there is no such call: " + text);
        }
        String inside = text.substring(open + 1, text.length() - 1).strip();
        String[] told = inside.isEmpty() ? new String[0] : inside.split("\\s*,\\s*");
        Class<?>[] types = method.getParameterTypes();
        if (told.length != types.length) {
            throw new IllegalArgumentException("the arguments are too few or too many: " + text);
        }
        Object[] arguments = new Object[told.length];
        for (int i = 0; i < told.length; i++) {
            arguments[i] = types[i] == boolean.class ? (Object) truth(told[i]) : (Object) Integer.decode(told[i]);
        }
        return new Call(text, method, arguments);
    }

    private static Boolean truth(String told) {
        if (!told.equals("true") && !told.equals("false")) {
            throw new IllegalArgumentException("neither true nor false: " + told);
        }
        return Boolean.valueOf(told);
    }

    /** Whether it changes nothing even if it is not refused. */
    boolean isLook() {
        return LOOKS.contains(method.getName());
    }

    /** The answer; what is thrown is answered by its very name, so that no subclass of it will do. */
    Object answerOf(FolderKeeper keeper) {
        try {
            return method.invoke(keeper, arguments);
        } catch (InvocationTargetException e) {
            return THROWS + e.getCause().getClass().getSimpleName();
        } catch (IllegalAccessException e) {
            throw new IllegalStateException(e);
        }
    }

    @Override
    public String toString() {
        return text;
    }
}
