import java.lang.reflect.Method;
import java.nio.file.Files;
import java.nio.file.Path;
import java.util.regex.Matcher;
import java.util.regex.Pattern;

/** The example of README.md: each call answers the number that its remark begins with. */
public final class ReadmeTest {
    private static final Pattern CALL = Pattern.compile("(?m)^x\\.(\\w+)\\((.*)\\); *// (-?\\d+)");
    private static final int LEAST = 15;

    public static void main(String[] args) throws Exception {
        String text = Files.readString(Path.of("README.md"));
        String example = text.split("```java\n")[1].split("```")[0];
        CountTables x = new CountTables();
        Matcher m = CALL.matcher(example);
        int calls = 0;
        int wrong = 0;
        while (m.find()) {
            calls++;
            long got = answer(x, m.group(1), m.group(2).isEmpty() ? new String[0]
                    : m.group(2).split(", *"));
            if (got != Long.parseLong(m.group(3))) {
                wrong++;
                System.out.println(m.group() + ": answered " + got);
            }
        }
        // a line that is no call of that form would not be tried
        boolean all = calls == example.lines().count() - 1;
        if (wrong != 0 || calls < LEAST || !all) {
            System.out.println(wrong + " wrong of " + calls + " calls");
            System.exit(1);
        }
    }

    private static long answer(CountTables x, String name, String[] texts) throws Exception {
        for (Method method : CountTables.class.getDeclaredMethods()) {
            if (method.getName().equals(name)) {
                Object[] values = new Object[texts.length];
                for (int i = 0; i < texts.length; i++) {
                    long value = Long.decode(texts[i]);
                    boolean wide = method.getParameterTypes()[i] == long.class;
                    values[i] = wide ? (Object) value : (Object) (int) value;
                }
                return ((Number) method.invoke(x, values)).longValue();
            }
        }
        throw new IllegalArgumentException(name);
    }
}
