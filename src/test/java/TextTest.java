import java.util.Random;

/** Texts that are off by a byte, a token or an end, held against the model's own reader. */
public final class TextTest {
    private static final String[] SOUND = {
        "table rows 2 columns 2;row 2 1;row 0 3;",
        "table rows 3 columns 3;row 0 1 0;row 0 0 1;row 1 0 0;hole 0 0;hole 1 1;hole 2 2;",
        "table\nrows 2columns 3;row1 0 2;row 004 0 9 ;hole 0 1;  hole 1\n1; \n",
        "table rows 4 columns 4;row 9 0 0 1;row 0 9 0 1;row 0 0 0 0;row 0 0 0 0;hole 3 3;",
    };
    private static final String[] TOKENS = {
        "table", "rows", "columns", "row", "hole", "a", "z", "0", "1", "2", "3", "4", "5", "9", "10",
        "00000000000000000002", "4294967298", "18446744073709551617", ";", " ", "\n", ",", "\t",
        "A", "-1", "{", "`", "/", ":", "<", "\r", "\u0000", "\u00ff", "",
    };

    private static int wrong = 0;

    public static void main(String[] args) {
        for (String text : SOUND) {
            tell(text);
            for (int i = 0; i <= text.length(); i++) {
                tell(text.substring(0, i));
                tell(text.substring(i));
                for (String token : TOKENS) {
                    tell(text.substring(0, i) + token + text.substring(i));
                    if (i < text.length()) {
                        tell(text.substring(0, i) + token + text.substring(i + 1));
                    }
                }
            }
        }
        Random random = new Random(11);
        for (int i = 0; i < 3000; i++) {
            tell(shuffled(random));
        }
        for (int i = 0; i < 200; i++) {
            bytes(random);
        }
        if (wrong != 0) {
            System.exit(1);
        }
    }

    private static void tell(String text) {
        if (text.length() > 300) {
            return;
        }
        Pair pair = new Pair();
        pair.tell("table rows 2 columns 2;row 1 0;row 0 1;");
        pair.call(38, 0, 1, 1, 0);
        pair.tell(text);
        for (int what = 0; what <= 7; what++) {
            pair.call(4, what, 0, 0, 0);
        }
        for (int k = 0; k < 16; k++) {
            pair.call(5, k / 4, k % 4, 0, 0);
            pair.call(6, k / 4, k % 4, 0, 0);
        }
        wrong += pair.wrong;
    }

    /** A few tokens of a sound text put in place of each other. */
    private static String shuffled(Random random) {
        String[] tokens = SOUND[random.nextInt(SOUND.length)].split("(?<=[ ;\n])|(?=[;])");
        for (int i = random.nextInt(3); i >= 0; i--) {
            tokens[random.nextInt(tokens.length)] = tokens[random.nextInt(tokens.length)];
        }
        return String.join("", tokens);
    }

    /** Feeds, ends and tables as they come. */
    private static void bytes(Random random) {
        Pair pair = new Pair();
        for (int i = 0; i < 60; i++) {
            int which = random.nextInt(8) == 0 ? 2 : random.nextInt(3) == 0 ? 1 : 0;
            pair.call(which, which == 1 ? random.nextInt(340) - 20 : random.nextInt(),
                    random.nextInt(), random.nextInt(), random.nextInt());
            pair.call(4, 6, 0, 0, 0);
            pair.call(3, random.nextInt(4) - 1, 0, 0, 0);
        }
        wrong += pair.wrong;
    }
}
