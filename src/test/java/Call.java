import java.lang.reflect.Method;
import java.lang.reflect.Modifier;
import java.util.ArrayList;
import java.util.Arrays;
import java.util.HashMap;
import java.util.List;
import java.util.Map;
import java.util.Set;

/** One call of a script: a method of LadderMaker and what it is given. */
record Call(Method method, List<Long> given) {
    private static final Map<String, Method> METHODS = new HashMap<>();
    private static final Map<String, Long> NAMES = Map.of("BAD", -1L, "NOT", -2L, "FULL", -3L, "STATE", -5L,
            "WIDE", -6L, "NO", Long.MIN_VALUE, "MIN", (long) Integer.MIN_VALUE, "MAX", (long) Integer.MAX_VALUE,
            "MAXLONG", Long.MAX_VALUE);
    /** Calls that only tell something. */
    private static final Set<String> LOOKS = Set.of("degree", "coefficient", "same", "parts", "end", "part", "value",
            "worth", "react", "first", "bin", "nearest", "want", "cost", "unlike", "taken", "get", "judge", "count");

    static {
        for (Method method : LadderMaker.class.getDeclaredMethods()) {
            if (Modifier.isPublic(method.getModifiers())) {
                METHODS.put(method.getName(), method);
            }
        }
    }

    static Call of(String name, List<Long> given) {
        Method method = METHODS.get(name);
        if (method == null || method.getParameterCount() != given.size()) {
            throw new IllegalArgumentException("there is no call " + name + given);
        }
        return new Call(method, given);
    }

    static Call of(String name, long... given) {
        return of(name, Arrays.stream(given).boxed().toList());
    }

    /** The calls that feed a text, four bytes a call. */
    static List<Call> feeding(String text) {
        List<Call> calls = new ArrayList<>();
        for (int at = 0; at < text.length(); at += 4) {
            int n = Math.min(4, text.length() - at);
            int v = 0;
            for (int k = 0; k < n; k++) {
                v = v << 8 | text.charAt(at + k);
            }
            calls.add(of("feed", v, n));
        }
        return calls;
    }

    static long number(String word) {
        String plain = word.trim();
        return NAMES.containsKey(plain) ? NAMES.get(plain) : Long.decode(plain);
    }

    boolean onlyLooks() {
        return LOOKS.contains(method.getName());
    }

    long on(Bench bench) {
        Object[] arguments = new Object[given.size()];
        for (int k = 0; k < arguments.length; k++) {
            boolean isInt = method.getParameterTypes()[k] == int.class;
            arguments[k] = isInt ? (Object) toInt(given.get(k)) : given.get(k);
        }
        try {
            return ((Number) method.invoke(bench.x(), arguments)).longValue();
        } catch (ReflectiveOperationException e) {
            throw new IllegalStateException(this + " threw", e);
        }
    }

    /** Up to 0xFFFFFFFF, so that four bytes can be told as they are. */
    private static int toInt(long number) {
        if (number < Integer.MIN_VALUE || number > 0xFFFFFFFFL) {
            throw new IllegalArgumentException("no int: " + number);
        }
        return (int) number;
    }

    @Override public String toString() {
        return method.getName() + given.toString().replace('[', '(').replace(']', ')');
    }
}
