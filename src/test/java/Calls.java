import java.lang.reflect.InvocationTargetException;
import java.lang.reflect.Method;
import java.nio.charset.StandardCharsets;
import java.util.Arrays;
import java.util.HashMap;
import java.util.Map;

/** Calls done on the class and on the model alike: told as texts, "boy(0, 5)", or as name and numbers. */
final class Calls {
    private static final Map<String, Method> OF_CLASS = methods(TwoCamps.class);
    private static final Map<String, Method> OF_MODEL = methods(Model.class);

    final TwoCamps x = new TwoCamps();
    final Model m = new Model();
    /** What the class and the model answered last; a boolean counts 1 or 0. */
    long got;
    long meant;

    private static Map<String, Method> methods(Class<?> of) {
        Map<String, Method> all = new HashMap<>();
        for (Method method : of.getDeclaredMethods()) {
            // The model has a force() of its own beside that of the face.
            if (method.getParameterCount() > 0) {
                all.put(method.getName(), method);
            }
        }
        return all;
    }

    /** How often a step is done: "3 x boy(0, 5)" three times. */
    static int times(String step) {
        return isMany(step) ? Integer.parseInt(step.substring(0, step.indexOf(" x "))) : 1;
    }

    /** The call of a step. */
    static String callOf(String step) {
        return isMany(step) ? step.substring(step.indexOf(" x ") + 3) : step;
    }

    private static boolean isMany(String step) {
        return step.matches("(?s)[0-9]+ x .*");
    }

    /** "boy(0, 5)", "LAW 0: see 1;", "PLAN 3: apart;" or "BOYS 05 13" (LOT and STRENGTH of each). */
    void call(String call) {
        if (call.startsWith("LAW ")) {
            text(0, call.charAt(4) - '0', call.substring(call.indexOf(':') + 2));
        } else if (call.startsWith("PLAN ")) {
            text(1, call.charAt(5) - '0', call.substring(call.indexOf(':') + 2));
        } else if (call.startsWith("BOYS ")) {
            for (String boy : call.substring(5).split(" ")) {
                of("boy", boy.charAt(0) - '0', boy.charAt(1) - '0');
            }
        } else {
            int open = call.indexOf('(');
            String[] told = call.substring(open + 1, call.indexOf(')')).split(", ");
            of(call.substring(0, open), Arrays.stream(told).map(Calls::number).toArray());
        }
    }

    private static Object number(String told) {
        switch (told) {
            case "true":
            case "false":
                return told.equals("true");
            case "MIN":
                return Integer.MIN_VALUE;
            case "MAX":
                return Integer.MAX_VALUE;
            case "NONE":
                return TwoCamps.NONE;
            default:
                return Integer.parseInt(told);
        }
    }

    /** The text comes behind what stands on the TAPE, and is read then. */
    private void text(int sort, int k, String text) {
        put(text);
        of("text", sort, k);
    }

    void put(String text) {
        byte[] bytes = text.getBytes(StandardCharsets.ISO_8859_1);
        int ahead = m.tape.length();
        for (int at = 0; at < bytes.length; at += 20) {
            int[] five = Checks.fiveOf(Arrays.copyOfRange(bytes, at, at + 20));
            of("feed", five[0], five[1], five[2], five[3], five[4]);
        }
        of("end", ahead + bytes.length);
    }

    void of(String name, Object... told) {
        got = answer(OF_CLASS.get(name), x, told);
        if (name.equals("feed")) {
            meant = m.feed(Arrays.stream(told).mapToInt(v -> (Integer) v).toArray());
        } else {
            meant = answer(OF_MODEL.get(name), m, told);
        }
    }

    /** The class alone is asked, as the model is slow. */
    long ofClass(String name, Object... told) {
        return answer(OF_CLASS.get(name), x, told);
    }

    private static long answer(Method method, Object on, Object... told) {
        try {
            Object answer = method.invoke(on, told);
            return answer instanceof Boolean ? ((Boolean) answer ? 1 : 0) : (Integer) answer;
        } catch (InvocationTargetException thrown) {
            throw new IllegalStateException(method.getName() + Arrays.toString(told), thrown.getCause());
        } catch (IllegalAccessException closed) {
            throw new IllegalStateException(method.getName() + " is closed", closed);
        }
    }
}
