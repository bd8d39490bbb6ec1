import java.nio.charset.StandardCharsets;
import java.nio.file.Files;
import java.nio.file.Path;
import java.util.ArrayList;
import java.util.List;
import java.util.regex.Matcher;
import java.util.regex.Pattern;

/** The rules of LANGUAGE.md that can be seen by the text alone; it is run from the project's root. */
public final class LanguageTest {
    private static final String[] FORBIDDEN = {
        "->", "::", "\\btry\\b", "\\bcatch\\b", "\\bthrows?\\b", "\\bfinally\\b", "\\bassert\\b",
        "\\bsynchronized\\b", "\\binstanceof\\b", "\\bnative\\b", "\\bvolatile\\b", "Exact\\b",
        "\\bDouble\\b", "\\bFloat\\b", "\\bSystem\\.(?!arraycopy)", "\\bObject\\b", "\\bvar\\b",
        "\\bprotected\\b", "^\\s*package\\b", "\\bMath\\.(?!max\\b|min\\b|abs\\b)", "\\bThread\\b",
        "^\\s*static\\s*\\{", "Arrays\\.(?!fill\\b|copyOf\\b|copyOfRange\\b)", "\\?\\s*extends",
    };
    private static final Pattern METHOD = Pattern.compile(
            "^( +)(?:(?:public|private|static|final) )*[\\w\\[\\]]+ (\\w+)\\(([^)]*)\\) \\{$");
    private static final Pattern STATIC_FIELD = Pattern.compile("^ +.*\\bstatic\\b[^(]*(=.*|;)$");

    private static final List<String> WRONG = new ArrayList<>();

    public static void main(String[] args) throws Exception {
        Path file = Path.of("src/main/java/CountTables.java");
        String text = Files.readString(file, StandardCharsets.US_ASCII);
        String code = text.replaceAll("(?s)/\\*.*?\\*/", "").replaceAll("//[^\n]*", "")
                .replaceAll("\"[^\"\n]*\"", "\"\"");
        for (String bad : FORBIDDEN) {
            Matcher m = Pattern.compile(bad, Pattern.MULTILINE).matcher(code);
            if (m.find()) {
                WRONG.add("forbidden: " + bad);
            }
        }
        imports(code);
        methods(code.split("\n"));
        if (count(code, "\\b(class|record|enum|interface) \\w+") > 12) {
            WRONG.add("rule 11: more than twelve classes");
        }
        for (String w : WRONG) {
            System.out.println(w);
        }
        if (!WRONG.isEmpty()) {
            System.exit(1);
        }
    }

    private static int count(String text, String pattern) {
        return (int) Pattern.compile(pattern).matcher(text).results().count();
    }

    private static void imports(String code) {
        Matcher m = Pattern.compile("(?m)^import (.*);").matcher(code);
        while (m.find()) {
            if (!m.group(1).matches("java\\.util\\.(Arrays|ArrayList|List|Iterator)")) {
                WRONG.add("rule 4: import " + m.group(1));
            }
        }
    }

    private static void methods(String[] lines) {
        List<String> open = new ArrayList<>();
        List<String> inside = new ArrayList<>();
        int found = 0;
        for (int i = 0; i < lines.length; i++) {
            if (STATIC_FIELD.matcher(lines[i]).find() && !lines[i].contains(" final ")) {
                WRONG.add("rule 5: " + lines[i].trim());
            }
            Matcher m = METHOD.matcher(lines[i]);
            if (!m.find() || m.group(2).equals("CountTables")) {
                continue;
            }
            found++;
            (lines[i].contains("public ") ? open : inside).add(m.group(2));
            if (!m.group(3).isEmpty() && m.group(3).split(",").length > 7) {
                WRONG.add("rule 11: more than seven parameters: " + m.group(2));
            }
            int end = i;
            while (end < lines.length && !lines[end].equals(m.group(1) + "}")) {
                end++;
            }
            if (end - i > 60) {
                WRONG.add("rule 11: a long method: " + m.group(2));
            }
        }
        inside.retainAll(open);
        if (!inside.isEmpty()) {
            WRONG.add("rule 1: names of the face: " + inside);
        }
        if (found < 42 || open.size() != 42) {
            WRONG.add("methods were not found: " + found + ", of the face " + open.size());
        }
    }
}
