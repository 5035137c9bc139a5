import java.lang.reflect.InvocationTargetException;
import java.lang.reflect.Method;
import java.lang.reflect.Modifier;
import java.util.HashMap;
import java.util.Map;

/** Calls by their names, of the program and of the reference alike, and what they answer as text. */
final class Calls {
    private static final Map<String, Method> METHODS = new HashMap<>();

    private Calls() {
    }

    static Method method(Class<?> of, String name) {
        return METHODS.computeIfAbsent(of.getName() + '.' + name, key -> find(of, name));
    }

    private static Method find(Class<?> of, String name) {
        for (Method method : of.getDeclaredMethods()) {
            if (method.getName().equals(name) && Modifier.isPublic(method.getModifiers())) {
                return method;
            }
        }
        throw new IllegalStateException("no call " + name);
    }

    static String answer(Object object, String name, Object... arguments) {
        try {
            return String.valueOf(method(object.getClass(), name).invoke(object, arguments));
        } catch (InvocationTargetException e) {
            return thrown(e.getCause().getClass());
        } catch (IllegalAccessException e) {
            throw new IllegalStateException(e);
        }
    }

    static String thrown(Class<?> exception) {
        return "throws." + exception.getName();
    }

    static String told(String name, Object... arguments) {
        StringBuilder told = new StringBuilder(name).append('(');
        for (int i = 0; i < arguments.length; i++) {
            told.append(i == 0 ? "" : ", ").append(arguments[i] instanceof Character
                ? "sign " + (int) (Character) arguments[i] : arguments[i]);
        }
        return told.append(')').toString();
    }
}
