import java.nio.charset.StandardCharsets;

/** Texts as the class takes them: twenty bytes a call, four of each number. */
final class Texts {
    private Texts() {
    }

    /** The text's bytes (0 to 255) as rows of five numbers, filled up with bytes 0. */
    static int[][] words(String text) {
        byte[] bytes = text.getBytes(StandardCharsets.ISO_8859_1);
        int[][] words = new int[(bytes.length + 19) / 20][5];
        for (int i = 0; i < 20 * words.length; i++) {
            int b = i < bytes.length ? bytes[i] & 255 : 0;
            words[i / 20][i % 20 / 4] = words[i / 20][i % 20 / 4] << 8 | b;
        }
        return words;
    }

    /** Puts a text behind the tape. */
    static void feed(CountTables x, String text) {
        feed(x, words(text), text.length());
    }

    static void feed(CountTables x, int[][] words, int length) {
        int before = x.count(6);
        for (int[] w : words) {
            x.feed(w[0], w[1], w[2], w[3], w[4]);
        }
        x.end(before + length);
    }

    /** A table with its rows, without holes. */
    static String of(int[][] cells) {
        StringBuilder text = new StringBuilder("table rows " + cells.length + " columns "
                + cells[0].length + ";");
        for (int[] line : cells) {
            text.append("row");
            for (int v : line) {
                text.append(' ').append(v);
            }
            text.append(';');
        }
        return text.toString();
    }
}
