import java.lang.reflect.InvocationTargetException;
import java.lang.reflect.Method;
import java.lang.reflect.Modifier;
import java.util.Arrays;

/** Every call in every kind of state, with every mix of arguments at the edges: none throws. */
public final class StatesTest {
    private static final long[] EDGES = {
        0, -1, 1, 3, 4, 21, 1001, 1L << 30, Integer.MAX_VALUE, Integer.MIN_VALUE,
    };

    private static int wrong = 0;
    private static long calls = 0;

    public static void main(String[] args) throws ReflectiveOperationException {
        for (Method method : CountTables.class.getDeclaredMethods()) {
            if (Modifier.isPublic(method.getModifiers())) {
                for (int state = 0; state < 9; state++) {
                    everyMix(method, state);
                }
            }
        }
        if (wrong != 0 || calls < 100_000) {
            System.out.println(wrong + " wrong of " + calls);
            System.exit(1);
        }
    }

    private static CountTables inState(int state) {
        String[] texts = {"", Sentences.SMALL, Sentences.TURNING, Sentences.THOUSAND,
            Sentences.ONE_MORE, Sentences.GREAT, Sentences.NOUGHT, Sentences.PLACES};
        CountTables x = new CountTables();
        if (state == texts.length) {
            return Sentences.bare()[1];
        }
        Texts.feed(x, texts[state]);
        x.table();
        if (state == texts.length - 1) {
            for (int i = 0; i < 20; i++) {
                x.walk(5, i);
            }
            for (int i = 0; i < 15; i++) {
                x.feed(i, -i, 1 << i, 0x20202020, -1);
            }
        }
        return x;
    }

    private static void everyMix(Method method, int state) throws ReflectiveOperationException {
        Class<?>[] types = method.getParameterTypes();
        // five arguments are words of a tape alone: three edges of each do
        int kinds = types.length > 4 ? 3 : EDGES.length;
        int mixes = (int) Math.pow(kinds, types.length);
        CountTables x = inState(state);
        for (int mix = 0; mix < mixes; mix++) {
            Object[] values = new Object[types.length];
            int rest = mix;
            for (int i = 0; i < types.length; i++) {
                long value = EDGES[rest % kinds];
                values[i] = types[i] == long.class ? (Object) value : (Object) (int) value;
                rest /= kinds;
            }
            call(x, method, values, state);
        }
    }

    private static void call(CountTables x, Method method, Object[] values, int state)
            throws ReflectiveOperationException {
        calls++;
        try {
            long answer = ((Number) method.invoke(x, values)).longValue();
            boolean bits = method.getName().equals("excess");
            if (answer < -5 && !bits) {
                tell(method, values, state, "answered " + answer);
            }
        } catch (InvocationTargetException e) {
            tell(method, values, state, "threw " + e.getCause());
        }
    }

    private static void tell(Method method, Object[] values, int state, String what) {
        wrong++;
        if (wrong < 20) {
            System.out.println(method.getName() + Arrays.toString(values) + " in state "
                    + state + " " + what);
        }
    }
}
