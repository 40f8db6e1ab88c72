import java.lang.reflect.InvocationTargetException;
import java.lang.reflect.Method;
import java.util.HashMap;
import java.util.Map;

/** A call of the class as it stands in a run's text, such as 'form(0, 3, 2.5f, 4, 1, 0) = OUTSIDE'. */
final class Call {
    private static final Map<String, Method> FACE = new HashMap<>();
    private static final Map<String, Integer> NAMES = new HashMap<>();

    static {
        for (Method method : JoinSetter.class.getDeclaredMethods()) {
            FACE.put(method.getName(), method);
        }
        String[] refusals = {"UNKNOWN", "OUTSIDE", "STATE", "FULL", "NO", "NONE"};
        for (int k = 0; k < refusals.length; k++) {
            NAMES.put(refusals[k], -1 - k);
        }
        NAMES.put("MIN", Integer.MIN_VALUE);
        NAMES.put("MAX", Integer.MAX_VALUE);
    }

    final String text;
    final String name;
    private final Object[] arguments;
    /** Null: the call is there to get on with, and must not be refused. */
    final Integer due;

    private Call(String text, String name, Object[] arguments, Integer due) {
        this.text = text;
        this.name = name;
        this.arguments = arguments;
        this.due = due;
    }

    /** '$' stands for the turn of a call that is made several times. */
    static Call read(String line, int turn) {
        int open = line.indexOf('(');
        int close = line.indexOf(')', open);
        String name = line.substring(0, Math.max(open, 0)).trim();
        Method method = FACE.get(name);
        if (method == null || close < 0) {
            throw new IllegalArgumentException("no call: " + line);
        }
        String inside = line.substring(open + 1, close).trim();
        String[] parts = inside.isEmpty() ? new String[0] : inside.split(",");
        if (parts.length != method.getParameterCount()) {
            throw new IllegalArgumentException("wrong arguments: " + line);
        }
        Object[] arguments = new Object[parts.length];
        StringBuilder text = new StringBuilder(name).append('(');
        for (int k = 0; k < parts.length; k++) {
            String part = parts[k].trim();
            boolean flag = method.getParameterTypes()[k] == boolean.class;
            arguments[k] = flag ? (Object) flag(part) : (Object) number(part, turn);
            text.append(k > 0 ? ", " : "").append(arguments[k]);
        }
        String rest = line.substring(close + 1).trim();
        if (!rest.isEmpty() && rest.charAt(0) != '=') {
            throw new IllegalArgumentException("no answer: " + line);
        }
        Integer due = rest.isEmpty() ? null : number(rest.substring(1).trim(), turn);
        return new Call(text.append(')').toString(), name, arguments, due);
    }

    private static boolean flag(String part) {
        if (!part.equals("true") && !part.equals("false")) {
            throw new IllegalArgumentException("neither true nor false: " + part);
        }
        return part.equals("true");
    }

    /** Numbers, names and '$' with + - * / % between them, worked out from left to right. */
    private static int number(String part, int turn) {
        if (part.endsWith("f") && !part.startsWith("0x")) {
            return Float.floatToRawIntBits(Float.parseFloat(part));
        }
        String[] tokens = part.replaceAll("(?<=[\\w$])\\s*([-+*/%])\\s*", " $1 ").split(" ");
        int value = one(tokens[0], turn);
        for (int k = 1; k + 1 < tokens.length; k += 2) {
            int next = one(tokens[k + 1], turn);
            value = switch (tokens[k]) {
                case "+" -> value + next;
                case "-" -> value - next;
                case "*" -> value * next;
                case "/" -> value / next;
                default -> value % next;
            };
        }
        return value;
    }

    private static int one(String token, int turn) {
        if (token.equals("$")) {
            return turn;
        }
        if (NAMES.containsKey(token)) {
            return NAMES.get(token);
        }
        return token.startsWith("0x") ? Integer.parseUnsignedInt(token.substring(2), 16) : Integer.parseInt(token);
    }

    int on(JoinSetter x) {
        try {
            return (Integer) FACE.get(name).invoke(x, arguments);
        } catch (InvocationTargetException e) {
            throw new IllegalStateException(text + " threw " + e.getCause(), e.getCause());
        } catch (IllegalAccessException e) {
            throw new IllegalStateException(text, e);
        }
    }
}
