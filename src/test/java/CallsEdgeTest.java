import java.util.Arrays;

/** The promises 1 to 43: each sentence that names an edge or a refusal, with a test of its own. */
public final class CallsEdgeTest {
    private static final int MIN = Integer.MIN_VALUE;
    private static final int MAX = Integer.MAX_VALUE;
    private static final Sentences DOC = new Sentences();
    /** 3 x 2, rows 3, 1, 3, columns 4, 3; the hole fixes the middle row: three tables. */
    private static final String TALL = "table rows 3 columns 2;row 1 2;row 0 1;row 3 0;hole 1 0;";

    public static void main(String[] args) {
        feeding();
        telling();
        countsAndCells();
        fibers();
        weighing();
        measuring();
        swapping();
        listed();
        drawing();
        acting();
        calls512();
        DOC.finish(78);
    }

    // promises 1 to 3

    private static void feeding() {
        newObject();
        feedToThreeHundred();
        feedThatIsRefused();
        feedOfHighBytes();
        endOfSoMany();
        endThatIsRefused();
    }

    private static void newObject() {
        DOC.says("1", "No TABLE.");
        CountTables x = new CountTables();
        for (int what = 0; what <= 6; what++) {
            DOC.due("count(" + what + ")", x.count(what), 0);
        }
        DOC.due("tables()", x.tables(), -2);
        DOC.due("cell(0, 0)", x.cell(0, 0), -2);
        DOC.due("undo()", x.undo(), -2);
        // one object has nothing of another one
        CountTables other = DOC.told(Sentences.PLACES);
        DOC.due("tables() beside another", new CountTables().tables(), -2);
        DOC.due("tables() of the other", other.tables(), 6);
    }

    private static void feedToThreeHundred() {
        DOC.says("2", "how many it has");
        CountTables x = new CountTables();
        for (int i = 1; i <= 15; i++) {
            DOC.due("feed " + i, x.feed(i, i, i, i, i), 20 * i);
            DOC.due("count(6)", x.count(6), 20 * i);
        }
        CountTables y = new CountTables();
        y.feed(0, 0, 0, 0, 0);
        y.end(7);
        DOC.due("feed behind seven", y.feed(0, 0, 0, 0, 0), 27);
    }

    private static void feedThatIsRefused() {
        DOC.says("2", "NONE, and none come, if it would have more than 300");
        for (int length = 279; length <= 300; length++) {
            CountTables x = new CountTables();
            for (int i = 0; i < 15; i++) {
                x.feed(0x20202020, 0x20202020, 0x20202020, 0x20202020, 0x20202020);
            }
            x.end(length);
            int due = length <= 280 ? length + 20 : -1;
            DOC.due("feed behind " + length, x.feed(0x61616161, 0, 0, 0, 0), due);
            DOC.due("count(6)", x.count(6), due == -1 ? length : due);
            DOC.due("feed anew", x.feed(0, 0, 0, 0, 0), -1);
            // what was refused is not on the tape: all blanks there
            DOC.due("table()", x.table(), due == -1 ? 0 : -4);
            DOC.due("feed on the empty tape", x.feed(0, 0, 0, 0, 0), 20);
        }
    }

    private static void feedOfHighBytes() {
        DOC.says("2", "four of each number, the highest first");
        // a blank, 255, a blank, a blank: the byte above 127 is one byte, and no token
        int[] words = {0xff202020, 0x20ff2020, 0x2020ff20, 0x202020ff};
        for (int place = 0; place < 20; place++) {
            int[] w = new int[5];
            for (int i = 0; i < 5; i++) {
                w[i] = place / 4 == i ? words[place % 4] : 0x20202020;
            }
            CountTables x = new CountTables();
            x.feed(w[0], w[1], w[2], w[3], w[4]);
            DOC.due("table()", x.table(), -4);
            DOC.due("fault(0)", x.fault(0), 1);
            DOC.due("fault(1)", x.fault(1), place);
        }
    }

    private static void endOfSoMany() {
        DOC.says("3", "The TAPE has its first n bytes alone: n");
        CountTables x = new CountTables();
        DOC.due("end(0) of an empty tape", x.end(0), 0);
        for (int i = 0; i < 15; i++) {
            x.feed(0, 0, 0, 0, 0);
        }
        for (int n : new int[] {300, 299, 299, 150, 1, 0, 0}) {
            DOC.due("end(" + n + ")", x.end(n), n);
            DOC.due("count(6)", x.count(6), n);
        }
        // what was cut off is gone, and what comes then stands in its place
        x.feed(0x20202020, 0x7a7a7a7a, 0, 0, 0);
        x.end(4);
        x.feed(0x20202020, 0x20202020, 0x20202020, 0x20202020, 0x20202020);
        DOC.due("table() of blanks", x.table(), 0);
    }

    private static void endThatIsRefused() {
        DOC.says("3", "NONE, and nothing happens, if it has not so many, or n is below 0");
        for (int n : new int[] {-1, -2, -20, MIN, 1, 20, 300, 301, MAX}) {
            CountTables x = new CountTables();
            DOC.due("end(" + n + ") of none", x.end(n), -1);
            DOC.due("count(6)", x.count(6), 0);
        }
        CountTables x = new CountTables();
        Texts.feed(x, Sentences.SMALL);
        for (int n : new int[] {-1, MIN, 40, 41, 300, 301, MAX}) {
            DOC.due("end(" + n + ") of 39", x.end(n), -1);
            DOC.due("count(6)", x.count(6), 39);
        }
        DOC.due("table()", x.table(), 3);
        DOC.due("end(39) of the tape that was read", x.end(39), -1);
    }

    // promises 4 and 5

    private static void telling() {
        tapeIsEmptyThen();
        inPlaceOfAnother();
        nothingOfTheOneBefore();
        noneAtAll();
        allElseStays();
        faultWithout();
        faultOfAnotherWhat();
        faultAheadOfAny();
        faultOfTheLatest();
    }

    private static void tapeIsEmptyThen() {
        DOC.says("4", "The TAPE (empty then)");
        for (String text : new String[] {"", " ", Sentences.SMALL, "x", "table rows 9"}) {
            CountTables x = new CountTables();
            Texts.feed(x, text);
            x.table();
            DOC.due("count(6) behind " + text, x.count(6), 0);
            DOC.due("end(1) behind " + text, x.end(1), -1);
            Texts.feed(x, Sentences.PLACES);
            DOC.due("table() behind " + text, x.table(), 4);
        }
    }

    private static void inPlaceOfAnother() {
        DOC.says("4", "tells the TABLE (in place of another), no acts");
        CountTables x = DOC.told(Sentences.GREAT);
        String[] texts = {Sentences.TURNING, TALL, Sentences.SMALL, Sentences.NOUGHT, Sentences.PLACES};
        int[] lines = {7, 5, 3, 3, 4};
        int[] tables = {2, 3, 3, 1, 6};
        for (int i = 0; i < texts.length; i++) {
            x.walk(10, i);
            x.walk(10, i);
            DOC.due("acts ahead", x.count(4), 2);
            Texts.feed(x, texts[i]);
            DOC.due("table()", x.table(), lines[i]);
            DOC.due("acts", x.count(4), 0);
            DOC.due("undo()", x.undo(), -5);
            DOC.due("tables()", x.tables(), tables[i]);
        }
        DOC.due("a cell that was there", x.cell(3, 3), -2);
        DOC.due("a hole that was there", x.hole(0, 0), 0);
    }

    private static void nothingOfTheOneBefore() {
        DOC.says("4", "tells the TABLE (in place of another): nothing of that one is left");
        // the like weights and squares in fibers that are not, one told behind the other
        String[] texts = {"table rows 2 columns 2;row 1 0;row 0 1;", Sentences.PLACES,
            Sentences.TURNING, "table rows 2 columns 3;row 1 0 0;row 0 1 0;", Sentences.SMALL,
            "table rows 2 columns 2;row 2 1;row 1 2;", Sentences.THOUSAND, TALL, Sentences.NOUGHT};
        for (int step = 1; step < texts.length; step++) {
            CountTables x = new CountTables();
            for (int i = 0; i < 5; i++) {
                String text = texts[i * step % texts.length];
                Texts.feed(x, text);
                x.table();
                long[] due = answers(DOC.told(text));
                long[] got = answers(x);
                for (int k = 0; k < due.length; k++) {
                    DOC.due("answer " + k + " of " + text, got[k], due[k]);
                }
            }
        }
    }

    /** What hangs on the whole fiber and may be kept from one call to the next. */
    private static long[] answers(CountTables x) {
        return new long[] {x.extreme(0), x.extreme(1), x.extreme(2), x.extreme(3), x.share(0, 0),
            x.share(1, 0), x.share(2, 1), x.share(3, 1), x.heaviest(), x.lightest(), x.weights(),
            x.having(0, 0, 0), x.mean(0, 1, 0), x.fixed(), x.classes(), x.joined(), x.classOf(1),
            x.sized(1), x.apart(0, 1), x.far(), x.farthest(), x.within(1), x.ways(2, 0), x.ways(4, 1),
            x.evenly(), x.drawn(1073741823), x.swaps(), x.walk(9, 9), x.rank(), x.of(1, 0, 0)};
    }

    private static void noneAtAll() {
        DOC.says("4", "how many LINES (0: there is none then)");
        for (String text : new String[] {"", " ", "\n", " \n ".repeat(100)}) {
            CountTables x = DOC.told(Sentences.TURNING);
            x.walk(1, 1);
            Texts.feed(x, text);
            DOC.due("table()", x.table(), 0);
            for (int what = 0; what <= 6; what++) {
                DOC.due("count(" + what + ")", x.count(what), 0);
            }
            DOC.due("fault(0)", x.fault(0), 0);
            DOC.due("fault(1)", x.fault(1), -1);
            DOC.due("rank()", x.rank(), -2);
            DOC.due("table() again", x.table(), 0);
        }
    }

    private static void allElseStays() {
        DOC.says("4", "-4: a FAULT (all else stays)");
        String[] texts = {"x", "table rows 2 columns 2;row 0 0;row 0 0", Sentences.SMALL + "hole 1 1;",
            "table rows 4 columns 4;row 9 9 9 9;", Sentences.TURNING + "hole 0 0;"};
        for (String text : texts) {
            CountTables x = DOC.told(TALL);
            x.swap(0, 2, 0, 1);
            x.walk(3, 3);
            long[] before = state(x);
            Texts.feed(x, text);
            DOC.due("table() of " + text, x.table(), -4);
            long[] behind = state(x);
            for (int i = 0; i < before.length; i++) {
                DOC.due("what stays, " + i, behind[i], before[i]);
            }
            DOC.due("undo() behind it", x.undo(), 1);
            DOC.due("anew() behind it", x.anew(), 1);
            DOC.due("as told", x.cell(0, 1), 2);
        }
        CountTables none = new CountTables();
        Texts.feed(none, "x");
        DOC.due("table() without a table", none.table(), -4);
        DOC.due("tables(): none stays none", none.tables(), -2);
        DOC.due("count(5)", none.count(5), 0);
    }

    private static long[] state(CountTables x) {
        long[] all = new long[30];
        for (int i = 0; i < 6; i++) {
            all[i] = x.count(i);
            all[6 + i] = x.cell(i / 2, i % 2);
            all[12 + i] = x.hole(i / 2, i % 2);
        }
        long[] more = {x.rank(), x.tables(), x.weight(), x.extreme(1), x.share(2, 1), x.chi(),
            x.swaps(), x.classes(), x.far(), x.within(1), x.evenly(), x.row(2)};
        System.arraycopy(more, 0, all, 18, more.length);
        return all;
    }

    private static void faultWithout() {
        DOC.says("5", "its FAULT, 0 without, 1: its place (NONE without)");
        for (String text : new String[] {"", Sentences.SMALL}) {
            CountTables x = new CountTables();
            Texts.feed(x, text);
            x.table();
            DOC.due("fault(0)", x.fault(0), 0);
            DOC.due("fault(1)", x.fault(1), -1);
        }
        DOC.fault("x", 1, 0);
        DOC.fault("table rows 5", 2, 11);
    }

    private static void faultOfAnotherWhat() {
        DOC.says("5", "NONE for another what");
        CountTables x = new CountTables();
        for (int i = 0; i < 3; i++) {
            for (int what : new int[] {-1, 2, 3, -2, 256, MIN, MAX}) {
                DOC.due("fault(" + what + ")", x.fault(what), -1);
            }
            Texts.feed(x, i == 0 ? "x" : Sentences.SMALL);
            x.table();
        }
    }

    private static void faultAheadOfAny() {
        DOC.says("5", "and ahead of any (what 1)");
        CountTables x = new CountTables();
        DOC.due("fault(0)", x.fault(0), 0);
        DOC.due("fault(1)", x.fault(1), -1);
        Texts.feed(x, "x");
        DOC.due("fault(0) of a text not yet told", x.fault(0), 0);
        DOC.due("fault(1) of a text not yet told", x.fault(1), -1);
    }

    private static void faultOfTheLatest() {
        DOC.says("5", "Of the latest table()");
        CountTables x = new CountTables();
        String[] texts = {"x", "  ;", Sentences.SMALL, "table rows 1", "", Sentences.SMALL + "y"};
        int[] kinds = {1, 1, 0, 2, 0, 1};
        int[] places = {0, 2, -1, 11, -1, 39};
        for (int i = 0; i < texts.length; i++) {
            Texts.feed(x, texts[i]);
            x.table();
            x.swap(0, 1, 1, 0);
            DOC.due("fault(0)", x.fault(0), kinds[i]);
            DOC.due("fault(1)", x.fault(1), places[i]);
        }
    }

    // promises 6 to 10

    private static void countsAndCells() {
        countOfOthers();
        countOfActs();
        cellOfNone();
        cellByActs();
        holeOfNone();
        rowOfNone();
        columnOfNone();
    }

    private static void countOfOthers() {
        DOC.says("6", "NONE for others.");
        for (CountTables x : new CountTables[] {new CountTables(), DOC.told(TALL)}) {
            for (int what : new int[] {-1, 7, 8, -2, 256, MIN, MAX}) {
                DOC.due("count(" + what + ")", x.count(what), -1);
            }
        }
    }

    private static void countOfActs() {
        DOC.says("6", "0 ROWS, 1 COLUMNS, 2 TOTAL, 3 HOLES, 4 acts, 5 LINES, 6 bytes of the TAPE.");
        CountTables x = DOC.told(TALL);
        for (int acts = 0; acts <= 20; acts++) {
            int[] due = {3, 2, 7, 1, acts, 5, 0};
            for (int what = 0; what < due.length; what++) {
                DOC.due("count(" + what + ")", x.count(what), due[what]);
            }
            x.walk(1, acts);
        }
        DOC.due("count(4), full", x.count(4), 20);
        x.feed(0, 0, 0, 0, 0);
        DOC.due("count(6)", x.count(6), 20);
    }

    /** Each index that is none, in each table of 2 .. 4 rows and columns. */
    private static void cellOfNone() {
        DOC.says("7", "-2: there is none such.");
        for (CountTables x : Sentences.bare()) {
            DOC.due("cell(0, 0) without a table", x.cell(0, 0), -2);
        }
        for (int rows = 2; rows <= 4; rows++) {
            for (int columns = 2; columns <= 4; columns++) {
                CountTables x = DOC.told(Texts.of(new int[rows][columns]));
                DOC.due("the last cell", x.cell(rows - 1, columns - 1), 0);
                DOC.due("cell, row too large", x.cell(rows, 0), -2);
                DOC.due("cell, column too large", x.cell(0, columns), -2);
                for (int none : Sentences.NO_INDEX) {
                    DOC.due("cell(" + none + ", 0)", x.cell(none, 0), -2);
                    DOC.due("cell(0, " + none + ")", x.cell(0, none), -2);
                }
            }
        }
    }

    private static void cellByActs() {
        DOC.says("7", "A cell (by acts).");
        CountTables x = DOC.told("table rows 2 columns 2;row 9 5;row 5 1;");
        for (int v = 9; v <= 14; v++) {
            DOC.due("cell(0, 0)", x.cell(0, 0), v);
            DOC.due("cell(0, 1)", x.cell(0, 1), 14 - v);
            DOC.due("cell(1, 1)", x.cell(1, 1), v - 8);
            x.swap(0, 1, 0, 1);
        }
    }

    private static void holeOfNone() {
        DOC.says("8", "1 if it is a HOLE, else 0. -2 likewise.");
        for (CountTables x : Sentences.bare()) {
            DOC.due("hole(0, 0) without a table", x.hole(0, 0), -2);
        }
        CountTables x = DOC.told(TALL);
        for (int k = 0; k < 6; k++) {
            DOC.due("hole " + k, x.hole(k / 2, k % 2), k == 2 ? 1 : 0);
        }
        DOC.due("hole(3, 0)", x.hole(3, 0), -2);
        DOC.due("hole(0, 2)", x.hole(0, 2), -2);
        for (int none : Sentences.NO_INDEX) {
            DOC.due("hole(" + none + ", 0)", x.hole(none, 0), -2);
            DOC.due("hole(1, " + none + ")", x.hole(1, none), -2);
        }
    }

    private static void rowOfNone() {
        DOC.says("9", "The sum of a row. -2: there is none such.");
        for (CountTables x : Sentences.bare()) {
            DOC.due("row(0) without a table", x.row(0), -2);
        }
        CountTables x = DOC.told(TALL);
        int[] due = {3, 1, 3, -2, -2};
        for (int row = 0; row < due.length; row++) {
            DOC.due("row(" + row + ")", x.row(row), due[row]);
        }
        for (int none : Sentences.NO_INDEX) {
            DOC.due("row(" + none + ")", x.row(none), -2);
        }
        DOC.due("row(0) of twenty",
                DOC.told("table rows 2 columns 3;row 9 9 2;row 0 0 0;").row(0), 20);
        DOC.due("row(1) of nought", DOC.told(Sentences.NOUGHT).row(1), 0);
        DOC.due("row(3) of four", DOC.told(Sentences.GREAT).row(3), 5);
    }

    private static void columnOfNone() {
        DOC.says("10", "The sum of a column. -2 likewise.");
        for (CountTables x : Sentences.bare()) {
            DOC.due("column(0) without a table", x.column(0), -2);
        }
        CountTables x = DOC.told(TALL);
        int[] due = {4, 3, -2, -2, -2};
        for (int column = 0; column < due.length; column++) {
            DOC.due("column(" + column + ")", x.column(column), due[column]);
        }
        for (int none : Sentences.NO_INDEX) {
            DOC.due("column(" + none + ")", x.column(none), -2);
        }
        DOC.due("column(1) of twenty",
                DOC.told("table rows 3 columns 2;row 0 9;row 0 9;row 0 2;").column(1), 20);
        DOC.due("column(3) of four", DOC.told(Sentences.GREAT).column(3), 5);
    }

    // promises 11 to 18

    private static void fibers() {
        tablesOfNone();
        rankOfNone();
        ofNone();
        leastOfNone();
        mostOfNone();
        fixedOfNone();
        fixedWithoutHoles();
        havingNone();
        havingSoMuch();
        meanOfNone();
        meanInLowestTerms();
    }

    private static void tablesOfNone() {
        DOC.says("11", "-2: there is no TABLE.");
        for (CountTables x : Sentences.bare()) {
            DOC.due("tables()", x.tables(), -2);
        }
        DOC.due("tables(), the fewest", DOC.told(Sentences.NOUGHT).tables(), 1);
        DOC.due("tables(), the most", DOC.told(Sentences.GREAT).tables(), 40176);
    }

    private static void rankOfNone() {
        DOC.says("12", "RANK of the TABLE. -2 likewise.");
        for (CountTables x : Sentences.bare()) {
            DOC.due("rank()", x.rank(), -2);
        }
        CountTables x = DOC.told(Sentences.SMALL);
        for (int rank = 2; rank >= 0; rank--) {
            DOC.due("rank()", x.rank(), rank);
            x.swap(0, 1, 1, 0);
        }
    }

    private static void ofNone() {
        DOC.says("13", "A cell of the TABLE of a RANK. -2: there are none such.");
        for (CountTables x : Sentences.bare()) {
            DOC.due("of(0, 0, 0)", x.of(0, 0, 0), -2);
        }
        CountTables x = DOC.told(Sentences.SMALL);
        DOC.due("of(0, 0, 1)", x.of(0, 0, 1), 3);
        DOC.due("of(2, 1, 1)", x.of(2, 1, 1), 3);
        long[] none = {-1, 3, 4, 1L << 31, 1L << 32, (1L << 32) + 1, -(1L << 32), Long.MAX_VALUE,
            Long.MIN_VALUE};
        for (long rank : none) {
            DOC.due("of(" + rank + ", 0, 0)", x.of(rank, 0, 0), -2);
        }
        DOC.due("of(0, 2, 0)", x.of(0, 2, 0), -2);
        DOC.due("of(0, 0, 2)", x.of(0, 0, 2), -2);
        for (int index : Sentences.NO_INDEX) {
            DOC.due("of(0, " + index + ", 0)", x.of(0, index, 0), -2);
            DOC.due("of(0, 0, " + index + ")", x.of(0, 0, index), -2);
        }
        // more than 1,000 have ranks too
        CountTables great = DOC.told(Sentences.GREAT);
        DOC.due("of(40175, 2, 2)", great.of(40175, 2, 2), 5);
        DOC.due("of(40176, 2, 2)", great.of(40176, 2, 2), -2);
    }

    private static void leastOfNone() {
        DOC.says("14", "The least that a cell is in any of the FIBER. -2: there is none such.");
        for (CountTables x : Sentences.bare()) {
            DOC.due("least(0, 0)", x.least(0, 0), -2);
        }
        CountTables x = DOC.told("table rows 2 columns 2;row 9 5;row 5 1;");
        int[] due = {8, 0, 0, 0};
        for (int k = 0; k < 4; k++) {
            DOC.due("least " + k, x.least(k / 2, k % 2), due[k]);
        }
        DOC.due("least(2, 0)", x.least(2, 0), -2);
        DOC.due("least(0, 2)", x.least(0, 2), -2);
        for (int none : Sentences.NO_INDEX) {
            DOC.due("least(" + none + ", 0)", x.least(none, 0), -2);
            DOC.due("least(0, " + none + ")", x.least(0, none), -2);
        }
    }

    private static void mostOfNone() {
        DOC.says("15", "The most likewise. -2 likewise.");
        for (CountTables x : Sentences.bare()) {
            DOC.due("most(0, 0)", x.most(0, 0), -2);
        }
        CountTables x = DOC.told("table rows 2 columns 2;row 9 5;row 5 1;");
        int[] due = {14, 6, 6, 6};
        for (int k = 0; k < 4; k++) {
            DOC.due("most " + k, x.most(k / 2, k % 2), due[k]);
        }
        DOC.due("most of nought", DOC.told(Sentences.NOUGHT).most(1, 1), 0);
        DOC.due("most(2, 0)", x.most(2, 0), -2);
        DOC.due("most(0, 2)", x.most(0, 2), -2);
        for (int none : Sentences.NO_INDEX) {
            DOC.due("most(" + none + ", 0)", x.most(none, 0), -2);
            DOC.due("most(0, " + none + ")", x.most(0, none), -2);
        }
    }

    private static void fixedOfNone() {
        DOC.says("16", "as bits (row by row, bit 0 the first). -2: there is no TABLE.");
        for (CountTables x : Sentences.bare()) {
            DOC.due("fixed()", x.fixed(), -2);
        }
        for (int rows = 2; rows <= 4; rows++) {
            for (int columns = 2; columns <= 4; columns++) {
                CountTables x = DOC.told(Texts.of(new int[rows][columns]));
                DOC.due("fixed(), all", x.fixed(), (1 << rows * columns) - 1);
            }
        }
        DOC.due("fixed(), none", DOC.told(Sentences.GREAT).fixed(), 0);
        // the last row and the last column are nought
        CountTables edge = DOC.told("table rows 3 columns 4;row 1 1 1 0;row 1 1 1 0;row 0 0 0 0;");
        DOC.due("fixed(), an edge", edge.fixed(), 0b111110001000);
    }

    private static void fixedWithoutHoles() {
        DOC.says("16", "Cells, no HOLES, that are the same in all of the FIBER");
        CountTables x = DOC.told(Sentences.NOUGHT + "hole 0 0;hole 1 1;");
        DOC.due("fixed() beside holes", x.fixed(), 0b0110);
        CountTables all = DOC.told(Sentences.NOUGHT + "hole 0 0;hole 1 1;hole 0 1;hole 1 0;");
        DOC.due("fixed(), holes alone", all.fixed(), 0);
        // by the hole the others of its row and column are fixed too
        CountTables forced = DOC.told("table rows 2 columns 2;row 0 1;row 1 0;hole 0 0;");
        DOC.due("fixed() by a hole", forced.fixed(), 0b1110);
    }

    private static void havingNone() {
        DOC.says("17", "-2: there are none such (v 0 .. 20)");
        for (CountTables x : Sentences.bare()) {
            DOC.due("having(0, 0, 0)", x.having(0, 0, 0), -2);
        }
        CountTables x = DOC.told(Sentences.SMALL);
        for (int v : new int[] {-1, 21, 22, -20, 1 << 28, MIN, MAX}) {
            DOC.due("having(0, 0, " + v + ")", x.having(0, 0, v), -2);
            DOC.due("having(1, 1, " + v + ")", x.having(1, 1, v), -2);
        }
        DOC.due("having(2, 0, 0)", x.having(2, 0, 0), -2);
        DOC.due("having(0, 2, 0)", x.having(0, 2, 0), -2);
        for (int none : Sentences.NO_INDEX) {
            DOC.due("having(" + none + ", 0, 0)", x.having(none, 0, 0), -2);
            DOC.due("having(0, " + none + ", 0)", x.having(0, none, 0), -2);
        }
    }

    private static void havingSoMuch() {
        DOC.says("17", "In how many a cell is v.");
        CountTables x = DOC.told("table rows 2 columns 2;row 9 5;row 5 1;");
        CountTables nought = DOC.told(Texts.of(new int[4][4]));
        for (int v = 0; v <= 20; v++) {
            DOC.due("having(0, 0, " + v + ")", x.having(0, 0, v), v >= 8 && v <= 14 ? 1 : 0);
            DOC.due("having(1, 1, " + v + ")", x.having(1, 1, v), v <= 6 ? 1 : 0);
            DOC.due("having of nought", nought.having(3, 3, v), v == 0 ? 1 : 0);
        }
        CountTables turning = DOC.told(Sentences.TURNING);
        DOC.due("having(0, 0, 0) of a hole", turning.having(0, 0, 0), 2);
        DOC.due("having(0, 0, 1) of a hole", turning.having(0, 0, 1), 0);
    }

    private static void meanOfNone() {
        DOC.says("18", "what 0: above, 1: below. -2: there are none such.");
        for (CountTables x : Sentences.bare()) {
            DOC.due("mean(0, 0, 0)", x.mean(0, 0, 0), -2);
            DOC.due("mean(0, 0, 1)", x.mean(0, 0, 1), -2);
        }
        CountTables x = DOC.told(Sentences.SMALL);
        for (int what : new int[] {-1, 2, 3, MIN, MAX}) {
            DOC.due("mean(0, 0, " + what + ")", x.mean(0, 0, what), -2);
        }
        for (int what = 0; what < 2; what++) {
            DOC.due("mean(2, 0, ..)", x.mean(2, 0, what), -2);
            DOC.due("mean(0, 2, ..)", x.mean(0, 2, what), -2);
            for (int none : Sentences.NO_INDEX) {
                DOC.due("mean(" + none + ", 0, ..)", x.mean(none, 0, what), -2);
                DOC.due("mean(0, " + none + ", ..)", x.mean(0, none, what), -2);
            }
        }
    }

    private static void meanInLowestTerms() {
        DOC.says("18", "in lowest terms (0 / 1)");
        CountTables nought = DOC.told(Sentences.NOUGHT);
        DOC.due("mean above of nought", nought.mean(1, 1, 0), 0);
        DOC.due("mean below of nought", nought.mean(1, 1, 1), 1);
        CountTables turning = DOC.told(Sentences.TURNING);
        DOC.due("mean above of a hole", turning.mean(2, 2, 0), 0);
        DOC.due("mean below of a hole", turning.mean(2, 2, 1), 1);
        DOC.due("mean above of a half", turning.mean(0, 1, 0), 1);
        DOC.due("mean below of a half", turning.mean(0, 1, 1), 2);
        // 2 of 6 tables, 40,176 tables of one mean 5 / 4
        CountTables places = DOC.told(Sentences.PLACES);
        DOC.due("mean above of 2 / 6", places.mean(0, 0, 0), 1);
        DOC.due("mean below of 2 / 6", places.mean(0, 0, 1), 3);
        CountTables great = DOC.told(Sentences.GREAT);
        DOC.due("mean above of 5 / 4", great.mean(3, 0, 0), 5);
        DOC.due("mean below of 5 / 4", great.mean(3, 0, 1), 4);
        CountTables whole = DOC.told("table rows 2 columns 2;row 9 5;row 5 1;");
        DOC.due("mean above of 11", whole.mean(0, 0, 0), 11);
        DOC.due("mean below of 11", whole.mean(0, 0, 1), 1);
    }

    // promises 19 to 22

    private static void weighing() {
        weightOfNone();
        weightsOfNone();
        heaviestOfNone();
        firstHeaviest();
        lightestOfNone();
        firstLightest();
    }

    private static void weightOfNone() {
        DOC.says("19", "WEIGHT (III) of the TABLE. -2: there is no TABLE.");
        for (CountTables x : Sentences.bare()) {
            DOC.due("weight()", x.weight(), -2);
        }
        CountTables x = DOC.told(Sentences.SMALL);
        DOC.due("weight()", x.weight(), 3);
        x.swap(0, 1, 1, 0);
        DOC.due("weight() by acts", x.weight(), 9);
        x.undo();
        DOC.due("weight() taken back", x.weight(), 3);
    }

    private static void weightsOfNone() {
        DOC.says("20", "WEIGHTS of all together. -2 likewise.");
        for (CountTables x : Sentences.bare()) {
            DOC.due("weights()", x.weights(), -2);
        }
        // without holes: TOTAL! divided by the ! of each column
        DOC.due("weights(), the least", DOC.told(Sentences.NOUGHT).weights(), 1);
        DOC.due("weights(), the most", DOC.told(Sentences.GREAT).weights(), 11732745024L);
        DOC.due("weights() with holes", DOC.told(Sentences.TURNING).weights(), 2);
    }

    private static void heaviestOfNone() {
        DOC.says("21", "RANK of the one of greatest WEIGHT. -2 likewise.");
        for (CountTables x : Sentences.bare()) {
            DOC.due("heaviest()", x.heaviest(), -2);
        }
        CountTables x = DOC.told(Sentences.SMALL);
        DOC.due("heaviest() in the middle", x.heaviest(), 1);
        x.swap(0, 1, 1, 0);
        DOC.due("heaviest() by acts", x.heaviest(), 1);
        DOC.due("heaviest() of one", DOC.told(Sentences.NOUGHT).heaviest(), 0);
        // rows 3 and 1, columns 1 and 3: weights 1 and 3
        DOC.due("heaviest() at the end",
                DOC.told("table rows 2 columns 2;row 0 3;row 1 0;").heaviest(), 1);
    }

    private static void firstHeaviest() {
        DOC.says("21", "the first of several: heaviest");
        DOC.due("all alike", DOC.told(Sentences.PLACES).heaviest(), 0);
        // rows 3 and 3, columns 3 and 3: weights 1, 9, 9, 1
        DOC.due("two of four", DOC.told("table rows 2 columns 2;row 3 0;row 0 3;").heaviest(), 1);
        DOC.due("two alone", DOC.told(Sentences.TURNING).heaviest(), 0);
    }

    private static void lightestOfNone() {
        DOC.says("22", "RANK of the one of least WEIGHT. -2 likewise.");
        for (CountTables x : Sentences.bare()) {
            DOC.due("lightest()", x.lightest(), -2);
        }
        DOC.due("lightest() of one", DOC.told(Sentences.NOUGHT).lightest(), 0);
        // rows 3 and 1, columns 1 and 3: weights 1 and 3
        DOC.due("lightest() ahead",
                DOC.told("table rows 2 columns 2;row 0 3;row 1 0;").lightest(), 0);
        // rows 2 and 1, columns 2 and 1: [1 1; 1 0] of 2, [2 0; 0 1] of 1
        DOC.due("lightest() at the end",
                DOC.told("table rows 2 columns 2;row 2 0;row 0 1;").lightest(), 1);
    }

    private static void firstLightest() {
        DOC.says("22", "the first of several: lightest");
        DOC.due("all alike", DOC.told(Sentences.PLACES).lightest(), 0);
        DOC.due("two of four", DOC.told("table rows 2 columns 2;row 3 0;row 0 3;").lightest(), 0);
        DOC.due("24 of 40,176", DOC.told(Sentences.GREAT).lightest(), 0);
        // rows 2, 1, 1 and columns 2, 1, 1: 2 0 0 has two behind it, all at the end
        CountTables x = DOC.told("table rows 3 columns 3;row 2 0 0;row 0 1 0;row 0 0 1;");
        DOC.due("lightest() is the first with 2 0 0", x.lightest(), x.tables() - 2);
        DOC.due("its weight", x.weight(), 1);
    }

    // promises 23 to 27

    private static void measuring() {
        statisticOfNone();
        extremeOfNone();
        shareOfNone();
        shareInLowestTerms();
        chiOfNone();
        excessOfNone();
        excessBits();
    }

    private static void statisticOfNone() {
        DOC.says("23", "STATISTIC (III; 0 .. 3). -2: there is none such, no TABLE.");
        for (CountTables x : Sentences.bare()) {
            for (int which = -1; which <= 4; which++) {
                DOC.due("statistic(" + which + ") without", x.statistic(which), -2);
            }
        }
        CountTables x = DOC.told(Sentences.SMALL);
        long[] due = {3, 108, 16, 3};
        for (int which = 0; which < 4; which++) {
            DOC.due("statistic(" + which + ")", x.statistic(which), due[which]);
        }
        for (int which : new int[] {-1, 4, 5, MIN, MAX}) {
            DOC.due("statistic(" + which + ")", x.statistic(which), -2);
        }
    }

    private static void extremeOfNone() {
        DOC.says("24", "How many TABLES are as far out as it, or farther. -2 likewise.");
        for (CountTables x : Sentences.bare()) {
            for (int which = -1; which <= 4; which++) {
                DOC.due("extreme(" + which + ") without", x.extreme(which), -2);
            }
        }
        CountTables x = DOC.told(Sentences.SMALL);
        long[] due = {2, 2, 1, 2};
        for (int which = 0; which < 4; which++) {
            DOC.due("extreme(" + which + ")", x.extreme(which), due[which]);
        }
        for (int which : new int[] {-1, 4, 5, MIN, MAX}) {
            DOC.due("extreme(" + which + ")", x.extreme(which), -2);
        }
        // all of 40,176, and few of them
        CountTables great = DOC.told(Sentences.GREAT);
        DOC.due("extreme(0), the lightest", great.extreme(0), 24);
        DOC.due("extreme(3), a five somewhere", great.extreme(3) > 24 ? 1 : 0, 1);
        DOC.due("extreme(2), the one farthest out", great.extreme(2), 1);
        CountTables first = DOC.told("table rows 4 columns 4;row 0 0 0 5;row 0 0 5 0;row 0 5 0 0;"
                + "row 5 0 0 0;");
        DOC.due("extreme(2), the least: all", first.extreme(2), 40176);
    }

    private static void shareOfNone() {
        DOC.says("25", "what 0: above, 1: below. -2: there are none such.");
        for (CountTables x : Sentences.bare()) {
            for (int which = -1; which <= 4; which++) {
                for (int what = -1; what <= 2; what++) {
                    DOC.due("share() without", x.share(which, what), -2);
                }
            }
        }
        CountTables x = DOC.told(Sentences.SMALL);
        for (int none : new int[] {-1, 4, 5, MIN, MAX}) {
            DOC.due("share(" + none + ", 0)", x.share(none, 0), -2);
            DOC.due("share(" + none + ", 1)", x.share(none, 1), -2);
        }
        for (int which = 0; which < 4; which++) {
            for (int none : new int[] {-1, 2, 3, MIN, MAX}) {
                DOC.due("share(" + which + ", " + none + ")", x.share(which, none), -2);
            }
        }
    }

    private static void shareInLowestTerms() {
        DOC.says("25", "SHARE of these by their WEIGHTS in all WEIGHTS, in lowest terms");
        CountTables x = DOC.told(Sentences.SMALL);
        DOC.due("6 / 15 above", x.share(0, 0), 2);
        DOC.due("6 / 15 below", x.share(0, 1), 5);
        DOC.due("3 / 15 above", x.share(2, 0), 1);
        DOC.due("3 / 15 below", x.share(2, 1), 5);
        x.swap(0, 1, 1, 0);
        DOC.due("12 / 15 above", x.share(2, 0), 4);
        DOC.due("12 / 15 below", x.share(2, 1), 5);
        DOC.due("all above", x.share(0, 0), 1);
        DOC.due("all below", x.share(0, 1), 1);
        CountTables great = DOC.told(Sentences.GREAT);
        DOC.due("24 of all above", great.share(0, 0), 1);
        DOC.due("24 of all below", great.share(0, 1), 488864376);
        DOC.due("1 of all below, beyond an int", great.share(2, 1), 11732745024L);
    }

    private static void chiOfNone() {
        DOC.says("26", "its bits (doubleToLongBits). -2: there is no TABLE.");
        for (CountTables x : Sentences.bare()) {
            DOC.due("chi()", x.chi(), -2);
        }
        CountTables x = DOC.told(Sentences.SMALL);
        DOC.due("chi() of 3", x.chi(), Double.doubleToLongBits(3.0));
        x.swap(0, 1, 1, 0);
        DOC.due("chi() of 0", x.chi(), 0);
        // the largest: 16 would be 5 / 4 each, told 5 and 0
        double e = 25.0 / 20.0;
        double sum = 0;
        for (int k = 0; k < 16; k++) {
            double off = (k % 5 == 0 ? 5 : 0) - e;
            sum = sum + off * off / e;
        }
        DOC.due("chi() of 60", DOC.told(Sentences.GREAT).chi(), Double.doubleToLongBits(sum));
        // below 1: 2 1 / 1 1 of total 5
        double[] by = {9.0 / 5.0, 6.0 / 5.0, 6.0 / 5.0, 4.0 / 5.0};
        double small = 0;
        for (int k = 0; k < 4; k++) {
            double off = (k == 0 ? 2 : 1) - by[k];
            small = small + off * off / by[k];
        }
        DOC.due("chi() below 1", DOC.told("table rows 2 columns 2;row 2 1;row 1 1;").chi(),
                Double.doubleToLongBits(small));
    }

    private static void excessOfNone() {
        DOC.says("27", "A cell less what it would be by sums alone. -2: there is none such.");
        for (CountTables x : Sentences.bare()) {
            DOC.due("excess(0, 0)", x.excess(0, 0), -2);
        }
        CountTables x = DOC.told(Sentences.SMALL);
        DOC.due("excess(2, 0)", x.excess(2, 0), -2);
        DOC.due("excess(0, 2)", x.excess(0, 2), -2);
        for (int none : Sentences.NO_INDEX) {
            DOC.due("excess(" + none + ", 0)", x.excess(none, 0), -2);
            DOC.due("excess(0, " + none + ")", x.excess(0, none), -2);
        }
    }

    private static void excessBits() {
        DOC.says("27", "a float: its bits (floatToIntBits)");
        for (int total = 1; total <= 18; total++) {
            int a = Math.min(9, total);
            int b = total - a;
            CountTables x = DOC.told("table rows 2 columns 2;row " + a + " 0;row 0 " + b + ";");
            int[] sums = {a, b};
            for (int k = 0; k < 4; k++) {
                float by = (float) (sums[k / 2] * sums[k % 2]) / (float) total;
                float cell = k == 0 ? a : k == 3 ? b : 0;
                DOC.due("excess " + k + " of " + total, x.excess(k / 2, k % 2),
                        Float.floatToIntBits(cell - by));
            }
        }
        CountTables even = DOC.told("table rows 2 columns 2;row 1 1;row 1 1;");
        DOC.due("excess() of 0 has no sign", even.excess(0, 0), 0);
    }

    // promise 28

    private static void swapping() {
        swapsOfNone();
        swapsOnce();
    }

    private static void swapsOfNone() {
        DOC.says("28", "How many SWAPS (IV) can be done on the TABLE. -2: there is no TABLE.");
        for (CountTables x : Sentences.bare()) {
            DOC.due("swaps()", x.swaps(), -2);
        }
        DOC.due("swaps() of nought", DOC.told(Sentences.NOUGHT).swaps(), 0);
        DOC.due("swaps() among holes", DOC.told(Sentences.TURNING).swaps(), 0);
        DOC.due("swaps() where it is not listed", DOC.told(Sentences.GREAT).swaps(), 6);
    }

    private static void swapsOnce() {
        DOC.says("28", "(two that lead to one and the same are one)");
        for (int rows = 2; rows <= 4; rows++) {
            for (int columns = 2; columns <= 4; columns++) {
                int[][] ones = new int[rows][columns];
                for (int[] line : ones) {
                    Arrays.fill(line, 1);
                }
                // each two rows and two columns both ways
                int due = rows * (rows - 1) * columns * (columns - 1) / 2;
                DOC.due("swaps() of ones", DOC.told(Texts.of(ones)).swaps(), due);
            }
        }
    }

    // promises 29 to 37

    private static void listed() {
        classesOfNone();
        joinedOfNone();
        classOfNone();
        classOfOrder();
        sizedOfNone();
        apartOfNone();
        apartWhereNoneLead();
        farOfNone();
        farthestOfNone();
        leastFarthest();
        withinOfNone();
        withinSoMany();
        waysOfNone();
        waysOrder();
        waysOfFour();
    }

    private static void classesOfNone() {
        DOC.says("29", "-2 likewise; -3: it is not LISTED (IV).");
        for (CountTables x : Sentences.bare()) {
            DOC.due("classes()", x.classes(), -2);
        }
        DOC.due("classes() of 1,001", DOC.told(Sentences.ONE_MORE).classes(), -3);
        DOC.due("classes() of 40,176", DOC.told(Sentences.GREAT).classes(), -3);
        DOC.due("classes() of 1,000", DOC.told(Sentences.THOUSAND).classes(), 1);
        DOC.due("classes() of one", DOC.told(Sentences.NOUGHT).classes(), 1);
        DOC.due("classes() of two", DOC.told(Sentences.TURNING).classes(), 2);
    }

    private static void joinedOfNone() {
        DOC.says("30", "Into how many by SWAPS and TURNS. -2, -3 likewise.");
        for (CountTables x : Sentences.bare()) {
            DOC.due("joined()", x.joined(), -2);
        }
        DOC.due("joined() of 1,001", DOC.told(Sentences.ONE_MORE).joined(), -3);
        DOC.due("joined() of 40,176", DOC.told(Sentences.GREAT).joined(), -3);
        DOC.due("joined() of 1,000", DOC.told(Sentences.THOUSAND).joined(), 1);
        DOC.due("joined() of one", DOC.told(Sentences.NOUGHT).joined(), 1);
        // it takes nothing away from what is asked by swaps alone
        CountTables x = DOC.told(Sentences.TURNING);
        DOC.due("far() ahead", x.far(), 0);
        DOC.due("joined() of two", x.joined(), 1);
        DOC.due("far() behind", x.far(), 0);
        DOC.due("within(40) behind", x.within(40), 1);
        DOC.due("classes() behind", x.classes(), 2);
    }

    private static void classOfNone() {
        DOC.says("31", "The least RANK in the class. then -2: there is no such RANK");
        CountTables turning = DOC.told(Sentences.TURNING);
        DOC.due("classOf(0)", turning.classOf(0), 0);
        DOC.due("classOf(1)", turning.classOf(1), 1);
        for (int rank : new int[] {-1, 2, 3, 999, 1000, 1 << 30, MIN, MAX}) {
            DOC.due("classOf(" + rank + ")", turning.classOf(rank), -2);
        }
        CountTables thousand = DOC.told(Sentences.THOUSAND);
        DOC.due("classOf(999)", thousand.classOf(999), 0);
        DOC.due("classOf(1000)", thousand.classOf(1000), -2);
        DOC.due("classOf(-1)", thousand.classOf(-1), -2);
    }

    private static void classOfOrder() {
        DOC.says("31", "-2: there is no TABLE; then -3; then -2: there is no such RANK");
        for (int rank : new int[] {0, -1, 1000, 1001, 40175, 40176, MIN, MAX}) {
            for (CountTables x : Sentences.bare()) {
                DOC.due("classOf(" + rank + ") without", x.classOf(rank), -2);
            }
            DOC.due("classOf(" + rank + ")", DOC.told(Sentences.ONE_MORE).classOf(rank), -3);
            DOC.due("classOf(" + rank + ")", DOC.told(Sentences.GREAT).classOf(rank), -3);
        }
    }

    private static void sizedOfNone() {
        DOC.says("32", "How many TABLES are in that class. -2, -3 likewise.");
        for (int rank : new int[] {-1, 0, 2, 1000, MIN, MAX}) {
            for (CountTables x : Sentences.bare()) {
                DOC.due("sized(" + rank + ") without", x.sized(rank), -2);
            }
            DOC.due("sized(" + rank + ")", DOC.told(Sentences.ONE_MORE).sized(rank), -3);
            DOC.due("sized(" + rank + ")", DOC.told(Sentences.TURNING).sized(rank),
                    rank == 0 ? 1 : -2);
        }
        CountTables small = DOC.told(Sentences.SMALL);
        for (int rank = 0; rank < 3; rank++) {
            DOC.due("sized(" + rank + ")", small.sized(rank), 3);
        }
        DOC.due("sized(3)", small.sized(3), -2);
        DOC.due("sized(999)", DOC.told(Sentences.THOUSAND).sized(999), 1000);
        DOC.due("sized(1000)", DOC.told(Sentences.THOUSAND).sized(1000), -2);
    }

    private static void apartOfNone() {
        DOC.says("33", "The fewest SWAPS from one to another. -2, -3 likewise.");
        CountTables small = DOC.told(Sentences.SMALL);
        CountTables more = DOC.told(Sentences.ONE_MORE);
        for (int rank = 0; rank < 3; rank++) {
            for (int other = 0; other < 3; other++) {
                DOC.due("apart(" + rank + ", " + other + ")", small.apart(rank, other),
                        Math.abs(rank - other));
            }
            for (int none : new int[] {-1, 3, 4, 1000, MIN, MAX}) {
                DOC.due("apart(" + rank + ", " + none + ")", small.apart(rank, none), -2);
                DOC.due("apart(" + none + ", " + rank + ")", small.apart(none, rank), -2);
                DOC.due("apart(" + none + ", " + none + ")", small.apart(none, none), -2);
                DOC.due("apart(" + none + ", 0) of 1,001", more.apart(none, 0), -3);
                DOC.due("apart(0, " + none + ") of 1,001", more.apart(0, none), -3);
            }
        }
        for (CountTables x : Sentences.bare()) {
            DOC.due("apart(0, 0) without", x.apart(0, 0), -2);
            DOC.due("apart(-1, 5) without", x.apart(-1, 5), -2);
        }
        CountTables thousand = DOC.told(Sentences.THOUSAND);
        DOC.due("apart(0, 999) and back", thousand.apart(0, 999), thousand.apart(999, 0));
        DOC.due("apart(0, 1000)", thousand.apart(0, 1000), -2);
    }

    private static void apartWhereNoneLead() {
        DOC.says("33", "NONE: none lead there");
        CountTables x = DOC.told(Sentences.TURNING);
        DOC.due("apart(0, 1)", x.apart(0, 1), -1);
        DOC.due("apart(1, 0)", x.apart(1, 0), -1);
        DOC.due("apart(0, 0)", x.apart(0, 0), 0);
        DOC.due("apart(1, 1)", x.apart(1, 1), 0);
        DOC.due("apart(0, 2)", x.apart(0, 2), -2);
    }

    private static void farOfNone() {
        DOC.says("34", "-2: there is no TABLE; -3 likewise.");
        for (CountTables x : Sentences.bare()) {
            DOC.due("far()", x.far(), -2);
        }
        DOC.due("far() of 1,001", DOC.told(Sentences.ONE_MORE).far(), -3);
        DOC.due("far() of one", DOC.told(Sentences.NOUGHT).far(), 0);
        DOC.due("far() alone in its class", DOC.told(Sentences.TURNING).far(), 0);
        CountTables x = DOC.told("table rows 2 columns 2;row 9 0;row 0 9;");
        for (int v = 9; v >= 0; v--) {
            DOC.due("far() with " + v, x.far(), Math.max(v, 9 - v));
            x.swap(0, 1, 1, 0);
        }
    }

    private static void farthestOfNone() {
        DOC.says("35", "-2, -3 likewise.");
        for (CountTables x : Sentences.bare()) {
            DOC.due("farthest()", x.farthest(), -2);
        }
        DOC.due("farthest() of 1,001", DOC.told(Sentences.ONE_MORE).farthest(), -3);
        DOC.due("farthest() of one", DOC.told(Sentences.NOUGHT).farthest(), 0);
        DOC.due("farthest() alone in its class", DOC.told(Sentences.TURNING).farthest(), 1);
    }

    private static void leastFarthest() {
        DOC.says("35", "The least RANK of those.");
        CountTables x = DOC.told("table rows 2 columns 2;row 8 0;row 0 8;");
        for (int v = 8; v >= 0; v--) {
            // in the middle both ends are as far: the first one is told
            DOC.due("farthest() with " + v, x.farthest(), v >= 4 ? 0 : 8);
            x.swap(0, 1, 1, 0);
        }
        CountTables places = DOC.told(Sentences.PLACES);
        DOC.due("farthest() of two that turn", places.farthest(), 1);
    }

    private static void withinOfNone() {
        DOC.says("36", "n (0 .. 40). -2: there are none such; -3 likewise.");
        CountTables small = DOC.told(Sentences.SMALL);
        CountTables more = DOC.told(Sentences.ONE_MORE);
        for (int n : new int[] {-1, 41, 42, MIN, MAX}) {
            DOC.due("within(" + n + ")", small.within(n), -2);
            DOC.due("within(" + n + ") of 1,001", more.within(n), -2);
            for (CountTables x : Sentences.bare()) {
                DOC.due("within(" + n + ") without", x.within(n), -2);
            }
        }
        for (int n : new int[] {0, 1, 39, 40}) {
            DOC.due("within(" + n + ")", small.within(n), n == 0 ? 1 : n == 1 ? 2 : 3);
            DOC.due("within(" + n + ") of 1,001", more.within(n), -3);
            for (CountTables x : Sentences.bare()) {
                DOC.due("within(" + n + ") without", x.within(n), -2);
            }
        }
    }

    private static void withinSoMany() {
        DOC.says("36", "How many TABLES are n SWAPS at most from it.");
        CountTables x = DOC.told("table rows 2 columns 2;row 9 0;row 0 9;");
        for (int n = 0; n <= 40; n++) {
            DOC.due("within(" + n + ")", x.within(n), Math.min(10, n + 1));
        }
        DOC.due("none of the other class", DOC.told(Sentences.TURNING).within(40), 1);
        DOC.due("within(0) of 1,000", DOC.told(Sentences.THOUSAND).within(0), 1);
        for (int v = 9; v > 0; v--) {
            x.swap(0, 1, 1, 0);
        }
        DOC.due("rank()", x.rank(), 0);
        for (int n = 0; n <= 40; n++) {
            DOC.due("within(" + n + ") of the first", x.within(n), Math.min(10, n + 1));
        }
        DOC.due("within(40) of 1,000", DOC.told(Sentences.THOUSAND).within(40), 1000);
    }

    private static void waysOfNone() {
        DOC.says("37", "n (0 .. 4). -2: n is none such, there is no TABLE");
        CountTables small = DOC.told(Sentences.SMALL);
        for (int n : new int[] {-1, 5, 6, MIN, MAX}) {
            DOC.due("ways(" + n + ", 0)", small.ways(n, 0), -2);
            DOC.due("ways(" + n + ", 9)", small.ways(n, 9), -2);
        }
        for (int n = -1; n <= 5; n++) {
            for (CountTables x : Sentences.bare()) {
                DOC.due("ways(" + n + ", 0) without", x.ways(n, 0), -2);
            }
        }
    }

    private static void waysOrder() {
        DOC.says("37", "-2: n is none such; then -3; then -2: there is no such RANK");
        CountTables more = DOC.told(Sentences.ONE_MORE);
        CountTables small = DOC.told(Sentences.SMALL);
        for (int rank : new int[] {-1, 3, 1000, 1001, MIN, MAX}) {
            for (int n = 0; n <= 4; n++) {
                DOC.due("ways(" + n + ", " + rank + ") of 1,001", more.ways(n, rank), -3);
                DOC.due("ways(" + n + ", " + rank + ")", small.ways(n, rank), -2);
            }
            DOC.due("ways(-1, " + rank + ") of 1,001", more.ways(-1, rank), -2);
            DOC.due("ways(5, " + rank + ") of 1,001", more.ways(5, rank), -2);
        }
    }

    private static void waysOfFour() {
        DOC.says("37", "By how many rows of n (0 .. 4) CHOICES one comes from it");
        CountTables x = DOC.told(Sentences.SMALL);
        long[][] due = {{0, 0, 1}, {0, 2, 2}, {4, 4, 8}, {16, 24, 24}, {80, 80, 96}};
        for (int n = 0; n <= 4; n++) {
            long sum = 0;
            for (int rank = 0; rank < 3; rank++) {
                DOC.due("ways(" + n + ", " + rank + ")", x.ways(n, rank), due[n][rank]);
                sum += x.ways(n, rank);
            }
            DOC.due("all rows of " + n, sum, 1L << 2 * n);
        }
        // 144 choices, four times: all that there are, and all that stay
        CountTables thousand = DOC.told(Sentences.THOUSAND);
        long sum = 0;
        for (int rank = 0; rank < 400; rank++) {
            sum += thousand.ways(4, rank);
        }
        CountTables again = DOC.told(Sentences.THOUSAND);
        for (int rank = 400; rank < 800; rank++) {
            sum += again.ways(4, rank);
        }
        CountTables last = DOC.told(Sentences.THOUSAND);
        for (int rank = 800; rank < 1000; rank++) {
            sum += last.ways(4, rank);
        }
        DOC.due("all rows of four", sum, 429981696);
        DOC.due("all stay", DOC.told(Texts.of(new int[4][4])).ways(4, 0), 429981696);
    }

    // promises 38 and 39

    private static void drawing() {
        drawnOfNone();
        drawnNone();
        evenlyOfNone();
    }

    private static void drawnOfNone() {
        DOC.says("38", "a word (0 .. 1,073,741,823). -2: there is none such, no TABLE.");
        for (int word : new int[] {0, 5, 1073741823, 1073741824, -1, MIN, MAX}) {
            for (CountTables x : Sentences.bare()) {
                DOC.due("drawn(" + word + ") without", x.drawn(word), -2);
            }
        }
        for (String text : new String[] {Sentences.NOUGHT, Sentences.SMALL, Sentences.GREAT}) {
            CountTables x = DOC.told(text);
            for (int word : new int[] {-1, -2, 1073741824, 1073741825, MIN, MAX}) {
                DOC.due("drawn(" + word + ")", x.drawn(word), -2);
            }
            DOC.due("drawn(0)", x.drawn(0), 0);
        }
    }

    private static void drawnNone() {
        DOC.says("38", "NONE: none");
        DOC.due("of 3 the last word", DOC.told(Sentences.SMALL).drawn(1073741823), -1);
        DOC.due("of 3 the one before", DOC.told(Sentences.SMALL).drawn(1073741822), 2);
        // 6 * 178,956,970 = 1,073,741,820: four words draw none
        CountTables six = DOC.told(Sentences.PLACES);
        DOC.due("of 6", six.drawn(1073741819), 5);
        for (int word = 1073741820; word <= 1073741823; word++) {
            DOC.due("of 6, " + word, six.drawn(word), -1);
        }
        DOC.due("of 2 the last word", DOC.told(Sentences.TURNING).drawn(1073741823), 1);
        DOC.due("of 1 the last word", DOC.told(Sentences.NOUGHT).drawn(1073741823), 0);
    }

    private static void evenlyOfNone() {
        DOC.says("39", "How many words draw each. -2: there is no TABLE.");
        for (CountTables x : Sentences.bare()) {
            DOC.due("evenly()", x.evenly(), -2);
        }
        DOC.due("evenly() of one", DOC.told(Sentences.NOUGHT).evenly(), 1073741824);
        DOC.due("evenly() of 40,176", DOC.told(Sentences.GREAT).evenly(), 26725);
    }

    // promises 40 to 43

    private static void acting() {
        swapOfNone();
        swapOfAlike();
        swapThatIsRefused();
        swapAtTwentyActs();
        walkOfNone();
        walkAtTwentyActs();
        walkThatStays();
        undoOfNone();
        undoWithoutActs();
        anewOfNone();
        anewOfSoMany();
    }

    private static void swapOfNone() {
        DOC.says("40", "-2: there are none such, no TABLE");
        for (CountTables x : Sentences.bare()) {
            DOC.due("swap(0, 1, 0, 1) without", x.swap(0, 1, 0, 1), -2);
            DOC.due("count(4)", x.count(4), 0);
        }
        CountTables x = DOC.told("table rows 3 columns 2;row 1 1;row 1 1;row 1 1;");
        DOC.due("swap(3, 0, 0, 1)", x.swap(3, 0, 0, 1), -2);
        DOC.due("swap(0, 3, 0, 1)", x.swap(0, 3, 0, 1), -2);
        DOC.due("swap(0, 1, 2, 0)", x.swap(0, 1, 2, 0), -2);
        DOC.due("swap(0, 1, 0, 2)", x.swap(0, 1, 0, 2), -2);
        for (int none : Sentences.NO_INDEX) {
            DOC.due("swap(" + none + ", ..)", x.swap(none, 1, 0, 1), -2);
            DOC.due("swap(.., " + none + ", ..)", x.swap(0, none, 0, 1), -2);
            DOC.due("swap(.., " + none + ", ..)", x.swap(0, 1, none, 1), -2);
            DOC.due("swap(.., " + none + ")", x.swap(0, 1, 0, none), -2);
        }
        DOC.due("count(4)", x.count(4), 0);
        DOC.due("swap(2, 1, 1, 0)", x.swap(2, 1, 1, 0), 0);
    }

    private static void swapOfAlike() {
        DOC.says("40", "(r other than s, c other than d)");
        CountTables x = DOC.told("table rows 4 columns 4;" + "row 1 1 1 1;".repeat(4));
        for (int k = 0; k < 4; k++) {
            DOC.due("rows alike", x.swap(k, k, 0, 1), -2);
            DOC.due("columns alike", x.swap(0, 1, k, k), -2);
            DOC.due("both alike", x.swap(k, k, k, k), -2);
        }
        DOC.due("count(4)", x.count(4), 0);
    }

    private static void swapThatIsRefused() {
        DOC.says("40", "-5, and nothing happens: a cell would be below 0, is a HOLE");
        CountTables x = DOC.told("table rows 2 columns 3;row 1 0 1;row 0 1 1;hole 0 1;");
        // less in (1, 0), in (0, 1), in both, and more in the hole
        int[][] refused = {{0, 1, 0, 2}, {0, 1, 2, 1}, {0, 1, 0, 1}, {0, 1, 1, 0}, {1, 0, 0, 1}};
        for (int[] w : refused) {
            DOC.due("swap() refused", x.swap(w[0], w[1], w[2], w[3]), -5);
            DOC.due("count(4)", x.count(4), 0);
            DOC.due("rank()", x.rank(), 1);
        }
        DOC.due("swap() that can be", x.swap(0, 1, 2, 0), 0);
        DOC.due("rank()", x.rank(), 0);
    }

    private static void swapAtTwentyActs() {
        DOC.says("40", "-5, and nothing happens: there were 20 acts");
        CountTables x = DOC.told(Sentences.SMALL);
        for (int i = 0; i < 20; i++) {
            DOC.due("act " + i, i % 2 == 0 ? x.swap(0, 1, 1, 0) : x.swap(0, 1, 0, 1), 0);
        }
        DOC.due("count(4)", x.count(4), 20);
        DOC.due("the 21st", x.swap(0, 1, 1, 0), -5);
        DOC.due("count(4)", x.count(4), 20);
        DOC.due("rank() stays", x.rank(), 2);
        DOC.due("-2 is ahead of -5", x.swap(0, 0, 1, 0), -2);
        DOC.due("-2 is ahead of -5", x.swap(0, 1, 1, 2), -2);
        DOC.due("undo()", x.undo(), 19);
        DOC.due("rank() behind it", x.rank(), 1);
        DOC.due("room for one", x.swap(0, 1, 1, 0), 0);
        DOC.due("and none more", x.swap(0, 1, 0, 1), -5);
        DOC.due("rank()", x.rank(), 0);
    }

    private static void walkOfNone() {
        DOC.says("41", "n (1 .. 1,000), a seed (0 .. 2,000,000,000). -2: none such, no TABLE");
        for (CountTables x : Sentences.bare()) {
            DOC.due("walk(1, 0) without", x.walk(1, 0), -2);
            DOC.due("walk(0, -1) without", x.walk(0, -1), -2);
            DOC.due("count(4)", x.count(4), 0);
        }
        CountTables x = DOC.told(Sentences.PLACES);
        for (int n : new int[] {0, -1, 1001, 1002, MIN, MAX}) {
            DOC.due("walk(" + n + ", 0)", x.walk(n, 0), -2);
        }
        for (int seed : new int[] {-1, 2000000001, 2000000002, MIN, MAX}) {
            DOC.due("walk(1, " + seed + ")", x.walk(1, seed), -2);
        }
        DOC.due("count(4)", x.count(4), 0);
        DOC.due("rank()", x.rank(), 5);
        for (int[] w : new int[][] {{1, 0}, {1000, 0}, {1, 2000000000}, {1000, 2000000000}}) {
            DOC.due("walk(" + w[0] + ", " + w[1] + ")", x.walk(w[0], w[1]) >= 0 ? 1 : 0, 1);
        }
        DOC.due("count(4)", x.count(4), 4);
    }

    private static void walkAtTwentyActs() {
        DOC.says("41", "-5: there were 20 acts");
        CountTables x = DOC.told(Sentences.PLACES);
        for (int i = 0; i < 20; i++) {
            DOC.due("act " + i, x.walk(7, i) >= 0 ? 1 : 0, 1);
        }
        long rank = x.rank();
        for (int seed = 0; seed < 5; seed++) {
            DOC.due("the 21st", x.walk(1000, seed), -5);
            DOC.due("rank() stays", x.rank(), rank);
        }
        DOC.due("count(4)", x.count(4), 20);
        DOC.due("-2 is ahead of -5", x.walk(0, 0), -2);
        DOC.due("-2 is ahead of -5", x.walk(1, -1), -2);
        DOC.due("anew()", x.anew(), 20);
        DOC.due("rank() as told", x.rank(), 5);
        DOC.due("room again", x.walk(7, 0) >= 0 ? 1 : 0, 1);
    }

    private static void walkThatStays() {
        DOC.says("41", "An act: how many SWAPS were done");
        CountTables x = DOC.told(Sentences.NOUGHT);
        DOC.due("walk(1000, 9) of nought", x.walk(1000, 9), 0);
        DOC.due("an act all the same", x.count(4), 1);
        DOC.due("taken back as one", x.undo(), 0);
        CountTables turning = DOC.told(Sentences.TURNING);
        DOC.due("walk(1000, 9) among holes", turning.walk(1000, 9), 0);
        DOC.due("rank()", turning.rank(), 1);
        DOC.due("an act all the same", turning.count(4), 1);
        CountTables places = DOC.told(Sentences.PLACES);
        places.walk(1000, 9);
        DOC.due("a thousand choices are one act", places.undo(), 0);
        DOC.due("rank() as told", places.rank(), 5);
    }

    private static void undoOfNone() {
        DOC.says("42", "how many there are. -2: there is no TABLE");
        for (CountTables x : Sentences.bare()) {
            DOC.due("undo()", x.undo(), -2);
        }
        CountTables x = DOC.told(Sentences.SMALL);
        for (int i = 0; i < 20; i++) {
            x.swap(0, 1, i % 2 == 0 ? 1 : 0, i % 2 == 0 ? 0 : 1);
        }
        for (int left = 19; left >= 0; left--) {
            DOC.due("undo()", x.undo(), left);
            DOC.due("rank()", x.rank(), left % 2 == 0 ? 2 : 1);
        }
    }

    private static void undoWithoutActs() {
        DOC.says("42", "-5: there is none.");
        CountTables x = DOC.told(Sentences.SMALL);
        DOC.due("undo() at first", x.undo(), -5);
        x.swap(0, 1, 0, 1);
        DOC.due("undo() of a refused swap", x.undo(), -5);
        x.walk(0, 0);
        DOC.due("undo() of a refused walk", x.undo(), -5);
        x.swap(0, 1, 1, 0);
        DOC.due("undo() of one", x.undo(), 0);
        DOC.due("undo() of no more", x.undo(), -5);
        DOC.due("rank() stays", x.rank(), 2);
        DOC.due("count(4)", x.count(4), 0);
    }

    private static void anewOfNone() {
        DOC.says("43", "-2 likewise.");
        for (CountTables x : Sentences.bare()) {
            DOC.due("anew()", x.anew(), -2);
        }
    }

    private static void anewOfSoMany() {
        DOC.says("43", "All are: how many there were.");
        for (int acts = 0; acts <= 20; acts++) {
            CountTables x = DOC.told(Sentences.PLACES);
            for (int i = 0; i < acts; i++) {
                x.walk(3, i);
            }
            DOC.due("anew() of " + acts, x.anew(), acts);
            DOC.due("rank() as told", x.rank(), 5);
            DOC.due("count(4)", x.count(4), 0);
            DOC.due("anew() again", x.anew(), 0);
            DOC.due("undo() behind it", x.undo(), -5);
        }
    }

    // the life of an object

    private static void calls512() {
        DOC.says("What it is", "An object is used for at most 512 calls after it has been made");
        // six calls tell the table, four times 125 follow, and six tell another one and ask
        CountTables x = DOC.told(Sentences.PLACES);
        for (int i = 0; i < 125; i++) {
            x.swap(0, 1, 1, 0);
            DOC.due("rank()", x.rank(), 3);
            x.undo();
            DOC.due("far()", x.far(), 2);
        }
        Texts.feed(x, Sentences.SMALL);
        DOC.due("the 511th call", x.table(), 3);
        DOC.due("the 512th call", x.rank(), 2);
    }
}
