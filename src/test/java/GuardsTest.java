import java.lang.reflect.Array;
import java.lang.reflect.Field;
import java.lang.reflect.InvocationTargetException;
import java.lang.reflect.Method;
import java.lang.reflect.Modifier;
import java.util.ArrayList;
import java.util.Arrays;
import java.util.List;
import java.util.Random;

/**
 * Every index and divisor is looked at where it is used: even when numbers inside an object are
 * scrambled, which no call can do, no call makes the machine throw.
 */
public final class GuardsTest {
    private static final int TRIALS = 6000;
    private static final int CALLS = 40;
    private static final int[] EDGES = {
        -1, 0, 1, 2, 3, 4, 5, 15, 16, 19, 20, 21, 63, 71, 72, 263, 264, 265, 299, 300, 301, 319, 320,
        321, 335, 336, 479, 480, 481, 999, 1000, 1001, 4799, 4800, 4801, -4800, -5000,
    };
    private static final int[] HUGE = {
        1 << 20, 1 << 28, Integer.MAX_VALUE, Integer.MAX_VALUE - 1, Integer.MIN_VALUE,
    };
    private static final String[] TEXTS = {
        "", Sentences.SMALL, Sentences.TURNING, Sentences.PLACES, Sentences.THOUSAND,
        Sentences.ONE_MORE, Sentences.NOUGHT,
    };

    /** A field that is a number; or an array of numbers (the holder itself), and its field. */
    private record Spot(Object holder, Field field) {
    }

    private static final List<Method> FACE = new ArrayList<>();
    private static int wrong = 0;
    private static int changed = 0;

    public static void main(String[] args) throws ReflectiveOperationException {
        for (Method method : CountTables.class.getDeclaredMethods()) {
            if (Modifier.isPublic(method.getModifiers())) {
                FACE.add(method);
            }
        }
        FACE.sort((a, b) -> a.getName().compareTo(b.getName()));
        for (int seed = 0; seed < TRIALS && wrong < 10; seed++) {
            trial(new Random(seed), seed);
        }
        if (wrong != 0 || changed < TRIALS || FACE.size() != 42) {
            System.out.println(wrong + " calls threw, " + changed + " numbers changed");
            System.exit(1);
        }
    }

    private static void trial(Random random, int seed) throws ReflectiveOperationException {
        CountTables x = new CountTables();
        String text = TEXTS[random.nextInt(TEXTS.length)];
        Texts.feed(x, text);
        x.table();
        if (random.nextBoolean()) {
            x.walk(5, seed);
            x.far();
            x.heaviest();
            x.ways(1, 0);
        }
        if (random.nextBoolean()) {
            Texts.feed(x, text);
        }
        List<Spot> fields = new ArrayList<>();
        List<Spot> arrays = new ArrayList<>();
        gather(x, fields, arrays);
        for (int i = random.nextInt(4); i >= 0; i--) {
            scramble(random, random.nextBoolean() ? fields : arrays);
        }
        for (int i = 0; i < CALLS && wrong < 10; i++) {
            call(x, FACE.get(random.nextInt(FACE.size())), random, seed);
        }
    }

    /** All number fields, and all arrays of numbers, of the object and of the objects inside it. */
    private static void gather(Object holder, List<Spot> fields, List<Spot> arrays)
            throws ReflectiveOperationException {
        for (Field field : holder.getClass().getDeclaredFields()) {
            if (Modifier.isStatic(field.getModifiers())) {
                continue;
            }
            field.setAccessible(true);
            Class<?> type = field.getType();
            if (type.isPrimitive()) {
                fields.add(new Spot(holder, field));
            } else if (type.isArray()) {
                arrays.add(new Spot(field.get(holder), field));
            } else {
                // what several objects lead to is gathered more than once, which does no harm
                gather(field.get(holder), fields, arrays);
            }
        }
    }

    private static void scramble(Random random, List<Spot> spots)
            throws ReflectiveOperationException {
        Spot spot = spots.get(random.nextInt(spots.size()));
        changed++;
        if (!spot.holder.getClass().isArray()) {
            // loops go by these: a wrong one must be small, or the test would take too long
            String name = spot.field.getName();
            boolean side = name.equals("rows") || name.equals("columns");
            set(spot, side ? random.nextInt(11) - 1 : EDGES[random.nextInt(EDGES.length)]);
            return;
        }
        int length = Array.getLength(spot.holder);
        int from = random.nextInt(Math.min(length, random.nextBoolean() ? 8 : length));
        int many = random.nextInt(3) == 0 ? 12 : 1;
        for (int i = from; i < Math.min(length, from + many); i++) {
            boolean huge = random.nextInt(4) == 0;
            int[] all = huge ? HUGE : EDGES;
            put(spot.holder, i, all[random.nextInt(all.length)]);
        }
    }

    private static void set(Spot spot, int value) throws ReflectiveOperationException {
        Class<?> type = spot.field.getType();
        if (type == boolean.class) {
            spot.field.setBoolean(spot.holder, !spot.field.getBoolean(spot.holder));
        } else if (type == long.class) {
            spot.field.setLong(spot.holder, value * 0x100000001L);
        } else {
            spot.field.setInt(spot.holder, value);
        }
    }

    private static void put(Object array, int at, int value) {
        if (array instanceof boolean[] flags) {
            flags[at] = !flags[at];
        } else if (array instanceof long[] longs) {
            longs[at] = value * 0x100000001L;
        } else {
            ((int[]) array)[at] = value;
        }
    }

    private static void call(CountTables x, Method method, Random random, int seed)
            throws ReflectiveOperationException {
        Class<?>[] types = method.getParameterTypes();
        Object[] values = new Object[types.length];
        for (int i = 0; i < types.length; i++) {
            int value = random.nextBoolean() ? random.nextInt(4) : EDGES[random.nextInt(EDGES.length)];
            values[i] = types[i] == long.class ? (Object) (long) value : (Object) value;
        }
        try {
            method.invoke(x, values);
        } catch (InvocationTargetException e) {
            wrong++;
            System.out.println("seed " + seed + ": " + method.getName() + Arrays.toString(values)
                    + " threw " + e.getCause() + " at " + e.getCause().getStackTrace()[0]);
        }
    }
}
