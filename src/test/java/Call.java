import java.lang.reflect.InvocationTargetException;
import java.lang.reflect.Method;

/** A call of the class written out, such as "band(0, MAX, 0, 5)"; MIN and MAX are an int's ends. */
final class Call {
    final String text;
    private final Method method;
    private final Object[] arguments;

    Call(String text) {
        this.text = text;
        int open = text.indexOf('(');
        String inside = text.substring(open + 1, text.indexOf(')')).trim();
        String[] parts = inside.isEmpty() ? new String[0] : inside.split(" *, *");
        arguments = new Object[parts.length];
        for (int i = 0; i < parts.length; i++) {
            arguments[i] = valueOf(parts[i]);
        }
        method = find(RodBeam.class, text.substring(0, open));
    }

    @Override
    public String toString() {
        return text;
    }

    private static Object valueOf(String word) {
        return switch (word) {
            case "true", "false" -> Boolean.valueOf(word);
            case "MIN" -> Integer.MIN_VALUE;
            case "MAX" -> Integer.MAX_VALUE;
            default -> Integer.valueOf(word);
        };
    }

    private static Method find(Class<?> where, String name) {
        for (Method m : where.getDeclaredMethods()) {
            if (m.getName().equals(name)) {
                return m;
            }
        }
        throw new IllegalArgumentException(where + " has no call " + name);
    }

    /** A boolean counts 1 or 0. */
    int on(RodBeam x) {
        return answer(method, x);
    }

    int on(SlowRodBeam x) {
        return answer(find(SlowRodBeam.class, method.getName()), x);
    }

    private int answer(Method asked, Object x) {
        try {
            Object answer = asked.invoke(x, arguments);
            return answer instanceof Boolean is ? (is ? 1 : 0) : (Integer) answer;
        } catch (IllegalAccessException | InvocationTargetException e) {
            throw new IllegalStateException(text + " failed", e);
        }
    }

    /** NONE, or false. */
    int answerWhenRefused() {
        return method.getReturnType() == boolean.class ? 0 : RodBeam.NONE;
    }

    boolean hasStatus() {
        return !method.getName().equals("status") && !method.getName().equals("out");
    }
}
