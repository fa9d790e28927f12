import java.lang.reflect.InvocationTargetException;
import java.lang.reflect.Method;
import java.lang.reflect.Modifier;
import java.nio.charset.StandardCharsets;
import java.util.ArrayList;
import java.util.Arrays;
import java.util.List;
import java.util.TreeMap;

/** A new object of the program and a new oracle: all calls are made on both and are the same. */
final class Both {
    static final TreeMap<String, Method> METHODS = methods();
    /** How often each method answered, and how often it threw. */
    static final TreeMap<String, Integer> ANSWERS = new TreeMap<>();
    static final TreeMap<String, Integer> THROWS = new TreeMap<>();

    final SwitchGraphs program = new SwitchGraphs();
    private final Oracle oracle = new Oracle();
    private final List<String> calls = new ArrayList<>();

    private static TreeMap<String, Method> methods() {
        TreeMap<String, Method> methods = new TreeMap<>();
        for (Method method : SwitchGraphs.class.getDeclaredMethods()) {
            if (Modifier.isPublic(method.getModifiers())) {
                methods.put(method.getName(), method);
            }
        }
        return methods;
    }

    /** A run is worth nothing for a method that it hardly reaches. */
    static void everyMethodAnswered() {
        for (Method method : METHODS.values()) {
            String name = method.getName();
            Check.is("answers of " + name, ANSWERS.getOrDefault(name, 0) > 20, true);
            if (method.getExceptionTypes().length > 0) {
                Check.is("exceptions of " + name, THROWS.getOrDefault(name, 0) > 20, true);
            }
        }
    }

    /** The calls with their answers, so far. */
    List<String> calls() {
        return calls;
    }

    void feed(String text) {
        byte[] bytes = text.getBytes(StandardCharsets.ISO_8859_1);
        for (int from = 0; from < bytes.length; from += 20) {
            int[] words = new int[5];
            for (int k = 0; k < 20; k++) {
                int sign = from + k < bytes.length ? bytes[from + k] & 255 : ' ';
                words[k / 4] = words[k / 4] << 8 | sign;
            }
            compare("feed", words);
        }
    }

    void load(String text) {
        feed(text);
        compare("load", text.length());
    }

    /** Makes a call of both; a boolean is told as 1 or 0. */
    void compare(String name, int... parameters) {
        if (name.equals("meanDegree")) {
            Check.is(name, program.meanDegree(), oracle.meanDegree());
            ANSWERS.merge(name, 1, Integer::sum);
            calls.add(name);
            return;
        }
        String due;
        try {
            due = String.valueOf(oracle.call(name, parameters));
        } catch (RuntimeException e) {
            due = e.getClass().getName();
        }
        String got = answer(METHODS.get(name), parameters);
        boolean threw = got.startsWith("java");
        (threw ? THROWS : ANSWERS).merge(name, 1, Integer::sum);
        String call = name + Arrays.toString(parameters);
        calls.add(call + " = " + got);
        Check.is(call, got, due);
    }

    private String answer(Method method, int[] parameters) {
        Class<?>[] types = method.getParameterTypes();
        Object[] boxed = new Object[types.length];
        for (int k = 0; k < types.length; k++) {
            boxed[k] = types[k] == boolean.class ? (Object) (parameters[k] == 1) : parameters[k];
        }
        try {
            Object answer = method.invoke(program, boxed);
            if (answer instanceof Boolean) {
                return (Boolean) answer ? "1" : "0";
            }
            return answer instanceof Character
                    ? String.valueOf((int) (Character) answer) : String.valueOf(answer);
        } catch (InvocationTargetException e) {
            return e.getCause().getClass().getName();
        } catch (IllegalAccessException e) {
            return "no access";
        }
    }
}
