import java.lang.reflect.Constructor;
import java.lang.reflect.Field;
import java.lang.reflect.Method;
import java.lang.reflect.Modifier;
import java.util.Set;
import java.util.TreeSet;

/** The face of the class is the document's, and nothing more. */
public final class FaceTest {
    private static final String[] FACE = {
        "int feed(int,int,int,int,int)", "int end(int)", "int table()", "int fault(int)",
        "int count(int)", "int cell(int,int)", "int hole(int,int)", "int row(int)",
        "int column(int)", "long tables()", "long rank()", "int of(long,int,int)",
        "int least(int,int)", "int most(int,int)", "int fixed()", "long having(int,int,int)",
        "long mean(int,int,int)", "long weight()", "long weights()", "long heaviest()",
        "long lightest()", "long statistic(int)", "long extreme(int)", "long share(int,int)",
        "long chi()", "int excess(int,int)", "int swaps()", "int classes()", "int joined()",
        "int classOf(int)", "int sized(int)", "int apart(int,int)", "int far()",
        "int farthest()", "int within(int)", "long ways(int,int)", "long drawn(int)",
        "int evenly()", "int swap(int,int,int,int)", "int walk(int,int)", "int undo()",
        "int anew()",
    };

    public static void main(String[] args) {
        Set<String> wanted = new TreeSet<>(Set.of(FACE));
        Set<String> names = new TreeSet<>();
        for (String one : FACE) {
            names.add(one.substring(one.indexOf(' ') + 1, one.indexOf('(')));
        }
        Set<String> wrong = new TreeSet<>();
        Set<String> seen = new TreeSet<>();
        for (Method m : CountTables.class.getDeclaredMethods()) {
            if (Modifier.isPublic(m.getModifiers())) {
                seen.add(spell(m));
            } else if (!Modifier.isPrivate(m.getModifiers()) || names.contains(m.getName())) {
                wrong.add("method " + m);
            }
        }
        if (!seen.equals(wanted)) {
            wrong.add("methods are " + seen);
        }
        for (Field f : CountTables.class.getDeclaredFields()) {
            boolean constant = f.getName().equals("NONE") && f.getType() == int.class
                    && Modifier.isPublic(f.getModifiers()) && Modifier.isFinal(f.getModifiers());
            if (!constant && !Modifier.isPrivate(f.getModifiers())) {
                wrong.add("field " + f);
            }
        }
        Constructor<?>[] makers = CountTables.class.getDeclaredConstructors();
        if (makers.length != 1 || makers[0].getParameterCount() != 0
                || !Modifier.isPublic(makers[0].getModifiers())) {
            wrong.add("constructors");
        }
        if (!Modifier.isFinal(CountTables.class.getModifiers()) || CountTables.NONE != -1) {
            wrong.add("final, NONE");
        }
        for (Class<?> inside : CountTables.class.getDeclaredClasses()) {
            if (Modifier.isPublic(inside.getModifiers())
                    || !Modifier.isStatic(inside.getModifiers())) {
                wrong.add("class " + inside);
            }
        }
        for (String w : wrong) {
            System.out.println("not of the face: " + w);
        }
        if (!wrong.isEmpty()) {
            System.exit(1);
        }
    }

    private static String spell(Method m) {
        StringBuilder text = new StringBuilder(m.getReturnType() + " " + m.getName() + "(");
        for (Class<?> type : m.getParameterTypes()) {
            text.append(text.charAt(text.length() - 1) == '(' ? "" : ",").append(type);
        }
        return text.append(')').toString();
    }
}
