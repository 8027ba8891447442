import java.lang.reflect.InvocationTargetException;
import java.util.Arrays;

/** One object, called by words such as "straw(0, 10)", so that a test's rows read as the document does. */
final class Run {
    private static final int CALLS_PROMISED = 512;

    private final HenOracle x = new HenOracle();
    private int calls = 0;

    int call(String words) {
        calls++;
        int open = words.indexOf('(');
        String name = words.substring(0, open);
        String inside = words.substring(open + 1, words.length() - 1).trim();
        return answer(name, inside.isEmpty() ? new String[0] : inside.split(","));
    }

    private int answer(String name, String[] numbers) {
        Class<?>[] types = new Class<?>[numbers.length];
        Object[] values = new Object[numbers.length];
        for (int i = 0; i < numbers.length; i++) {
            types[i] = int.class;
            values[i] = number(numbers[i].trim());
        }
        try {
            return (int) HenOracle.class.getMethod(name, types).invoke(x, values);
        } catch (InvocationTargetException thrown) {
            throw new IllegalStateException(name + Arrays.toString(numbers) + " threw", thrown.getCause());
        } catch (ReflectiveOperationException none) {
            throw new IllegalStateException("no such call: " + name + Arrays.toString(numbers), none);
        }
    }

    /** The rest of a run is free, so a test that goes there must say so. */
    boolean isWithinPromise() {
        return calls <= CALLS_PROMISED;
    }

    static int number(String words) {
        switch (words) {
            case "NONE":
                return HenOracle.NONE;
            case "UNKNOWN":
                return HenOracle.UNKNOWN;
            case "OUTSIDE":
                return HenOracle.OUTSIDE;
            case "NOT":
                return HenOracle.NOT;
            case "FULL":
                return HenOracle.FULL;
            case "MIN":
                return Integer.MIN_VALUE;
            case "MAX":
                return Integer.MAX_VALUE;
            default:
                return Integer.parseInt(words);
        }
    }
}
