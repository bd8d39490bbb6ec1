/**
 * The document's sentences one after the other, each with checks of its own: what fails is told
 * with the sentence that it breaks, and a sentence without a check fails too.
 */
final class Sentences {
    /** 2 x 2, rows 3 and 3, columns 2 and 4: three tables, told is the last. */
    static final String SMALL = "table rows 2 columns 2;row 2 1;row 0 3;";
    /** The six permutations of three, told is the one that keeps all in place (the last). */
    static final String PLACES = "table rows 3 columns 3;row 1 0 0;row 0 1 0;row 0 0 1;";
    /** The two permutations of three that keep nothing in place: no swap can be done. */
    static final String TURNING = "table rows 3 columns 3;row 0 1 0;row 0 0 1;row 1 0 0;"
            + "hole 0 0;hole 1 1;hole 2 2;";
    /** All sums 5: 40,176 tables, the most that any text has. */
    static final String GREAT = "table rows 4 columns 4;"
            + "row 5 0 0 0;row 0 5 0 0;row 0 0 5 0;row 0 0 0 5;";
    /** Just 1,000 tables: the last that is listed. */
    static final String THOUSAND = "table rows 4 columns 4;row 0 2 1 1;row 0 0 0 2;row 1 1 1 1;"
            + "row 2 0 1 1;hole 1 1;hole 1 2;";
    /** Just 1,001 tables: the first that is not listed. */
    static final String ONE_MORE = "table rows 4 columns 3;row 0 1 4;row 3 0 2;row 1 1 2;row 0 2 2;";
    /** Nothing at all is in it. */
    static final String NOUGHT = "table rows 2 columns 2;row 0 0;row 0 0;";

    /** No index of a row or a column, some of which would wrap round to one that is. */
    static final int[] NO_INDEX = {
        -1, 4, 5, 1 << 28, 1 << 30, Integer.MAX_VALUE, Integer.MIN_VALUE,
    };

    private String sentence = "";
    private int checks = 1;
    private int wrong = 0;
    private int sentences = 0;

    /** The next sentence: the one before must have had a check. */
    void says(String where, String text) {
        if (checks == 0) {
            wrong++;
            System.out.println("no check of " + sentence);
        }
        sentence = where + " \"" + text + "\"";
        sentences++;
        checks = 0;
    }

    void due(String call, long got, long want) {
        checks++;
        if (got != want) {
            wrong++;
            System.out.println(sentence + ": " + call + " answered " + got + ", due is " + want);
        }
    }

    /** An object whose table is told by the text. */
    CountTables told(String text) {
        CountTables x = new CountTables();
        Texts.feed(x, text);
        if (x.table() <= 0) {
            wrong++;
            System.out.println(sentence + ": not taken: " + text + " by " + x.fault(0) + " at "
                    + x.fault(1));
        }
        return x;
    }

    /** Objects without a table: a new one, one that a text with nothing in it has emptied. */
    static CountTables[] bare() {
        CountTables emptied = new CountTables();
        Texts.feed(emptied, PLACES);
        emptied.table();
        emptied.swap(0, 1, 1, 0);
        emptied.table();
        return new CountTables[] {new CountTables(), emptied};
    }

    void taken(String text, int lines) {
        CountTables x = new CountTables();
        Texts.feed(x, text);
        due("table() of " + text, x.table(), lines);
        due("fault(0) of " + text, x.fault(0), 0);
    }

    void fault(String text, int kind, int place) {
        CountTables x = new CountTables();
        Texts.feed(x, text);
        due("table() of " + text, x.table(), -4);
        due("fault(0) of " + text, x.fault(0), kind);
        due("fault(1) of " + text, x.fault(1), place);
    }

    /** Ends the test: it fails if one check failed, or fewer sentences were gone through. */
    void finish(int least) {
        says("the end", "");
        if (wrong != 0 || sentences <= least) {
            System.out.println(wrong + " wrong, " + (sentences - 1) + " sentences");
            System.exit(1);
        }
    }
}
