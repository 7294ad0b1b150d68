import java.lang.reflect.Method;
import java.lang.reflect.Modifier;
import java.util.Arrays;
import java.util.Comparator;

/** Calls by their name, or as they are written: "lay(3, 0, 1)". */
final class Calls {
    private Calls() {
    }

    static Method[] all() {
        Method[] calls = Arrays.stream(SmallFirst.class.getDeclaredMethods())
            .filter(m -> Modifier.isPublic(m.getModifiers())).toArray(Method[]::new);
        Arrays.sort(calls, Comparator.comparing(Method::getName));
        return calls;
    }

    static long ask(Object x, String written) {
        int open = written.indexOf('(');
        String inside = written.substring(open + 1, written.length() - 1).replace(" ", "");
        int[] with = inside.isEmpty() ? new int[0]
            : Arrays.stream(inside.split(",")).mapToInt(Calls::number).toArray();
        return ask(x, written.substring(0, open), with);
    }

    static long ask(Object x, String name, int... with) {
        Class<?>[] types = new Class<?>[with.length];
        Arrays.fill(types, int.class);
        Object[] boxed = Arrays.stream(with).boxed().toArray();
        try {
            return ((Number) x.getClass().getMethod(name, types).invoke(x, boxed)).longValue();
        } catch (ReflectiveOperationException e) {
            throw new IllegalStateException(name + Arrays.toString(with), e);
        }
    }

    private static int number(String written) {
        switch (written) {
            case "LEAST":
                return Integer.MIN_VALUE;
            case "MOST":
                return Integer.MAX_VALUE;
            case "NONE":
                return SmallFirst.NONE;
            default:
                return Integer.parseInt(written);
        }
    }
}
