/** Each promise of the document by answers that were worked out by hand: see the heads. */
public final class PromisesTest {
    /** 2 x 2, rows 3 and 3, columns 2 and 4: three tables, told is the last. */
    private static final String SMALL = "table rows 2 columns 2;row 2 1;row 0 3;";
    /** The six permutations of three, told is the one that keeps all in place (the last). */
    private static final String PLACES = "table rows 3 columns 3;row 1 0 0;row 0 1 0;row 0 0 1;";
    /** The two permutations of three that keep nothing in place. */
    private static final String TURNING = "table rows 3 columns 3;row 0 1 0;row 0 0 1;row 1 0 0;"
            + "hole 0 0;hole 1 1;hole 2 2;";
    /** All sums 5: 40,176 tables, the most that any text has. */
    private static final String GREAT = "table rows 4 columns 4;"
            + "row 5 0 0 0;row 0 5 0 0;row 0 0 5 0;row 0 0 0 5;";

    private static int wrong = 0;

    private static void due(int promise, String call, long got, long want) {
        if (got != want) {
            wrong++;
            System.out.println("promise " + promise + ": " + call + " answered " + got
                    + ", due is " + want);
        }
    }

    private static CountTables of(String text) {
        CountTables x = new CountTables();
        Texts.feed(x, text);
        if (x.table() < 0) {
            wrong++;
            System.out.println("not taken: " + text + " by " + x.fault(0) + " at " + x.fault(1));
        }
        return x;
    }

    public static void main(String[] args) {
        newObject();
        tape();
        telling();
        faults();
        allHoles();
        cellsAndSums();
        fiber();
        cellsOfTheFiber();
        weights();
        statistics();
        bySumsAlone();
        swapsAndClasses();
        distances();
        rowsOfChoices();
        draws();
        swapping();
        walking();
        takingBack();
        wrongOnes();
        if (wrong != 0) {
            System.exit(1);
        }
    }

    /** Promise 1, and what all calls answer without a table. */
    private static void newObject() {
        CountTables x = new CountTables();
        due(1, "tables()", x.tables(), -2);
        due(1, "count(0)", x.count(0), 0);
        due(1, "count(6)", x.count(6), 0);
        due(1, "cell(0, 0)", x.cell(0, 0), -2);
        due(1, "classOf(-1)", x.classOf(-1), -2);
        due(1, "within(41)", x.within(41), -2);
        due(1, "undo()", x.undo(), -2);
        due(1, "table()", x.table(), 0);
        due(1, "anew()", x.anew(), -2);
    }

    private static void tape() {
        CountTables x = new CountTables();
        for (int i = 1; i <= 15; i++) {
            due(2, "feed " + i, x.feed(1, 2, 3, 4, 5), 20 * i);
        }
        due(2, "feed above 300", x.feed(1, 2, 3, 4, 5), -1);
        due(2, "count(6)", x.count(6), 300);
        due(3, "end(301)", x.end(301), -1);
        due(3, "end(-1)", x.end(-1), -1);
        due(3, "count(6)", x.count(6), 300);
        due(3, "end(300)", x.end(300), 300);
        due(3, "end(281)", x.end(281), 281);
        due(2, "feed above 300", x.feed(1, 2, 3, 4, 5), -1);
        due(3, "end(280)", x.end(280), 280);
        due(2, "feed", x.feed(1, 2, 3, 4, 5), 300);
        due(3, "end(0)", x.end(0), 0);
        due(3, "end(1)", x.end(1), -1);
        // "tabl" "e ro" "ws 2" " col" "umns" " 2;r" "ow 1" " 2;r" "ow 3" " 4;" and two bytes more
        x.feed(0x7461626c, 0x6520726f, 0x77732032, 0x20636f6c, 0x756d6e73);
        x.feed(0x20323b72, 0x6f772031, 0x20323b72, 0x6f772033, 0x20343bff);
        due(3, "end(39)", x.end(39), 39);
        due(2, "table()", x.table(), 3);
        due(2, "cell(0, 1)", x.cell(0, 1), 2);
        due(2, "cell(1, 0)", x.cell(1, 0), 3);
    }

    private static void telling() {
        CountTables x = of(SMALL);
        due(4, "count(6), the tape is empty", x.count(6), 0);
        x.swap(0, 1, 1, 0);
        Texts.feed(x, "table rows 2 columns 2;row 2 1;row 0 3");
        due(4, "table() with a fault", x.table(), -4);
        due(4, "count(6) behind a fault", x.count(6), 0);
        due(4, "acts stay", x.count(4), 1);
        due(4, "cells stay", x.cell(0, 0), 1);
        due(4, "lines stay", x.count(5), 3);
        Texts.feed(x, "\n table\nrows 3columns 2;row1 0;row 00 009;row 3 0;hole 0 1;\n ");
        due(4, "table()", x.table(), 5);
        due(4, "no acts", x.count(4), 0);
        due(4, "cell(1, 1)", x.cell(1, 1), 9);
        due(4, "hole(0, 1)", x.hole(0, 1), 1);
        due(4, "hole(1, 0)", x.hole(1, 0), 0);
        Texts.feed(x, TURNING);
        due(4, "table()", x.table(), 7);
        Texts.feed(x, SMALL);
        due(4, "table()", x.table(), 3);
        due(4, "holes are gone", x.count(3), 0);
        Texts.feed(x, " \n ");
        due(4, "table() of blanks", x.table(), 0);
        due(4, "there is none", x.tables(), -2);
        due(4, "count(5)", x.count(5), 0);
        due(4, "count(2)", x.count(2), 0);
    }

    private static void fault(String text, int kind, int place) {
        CountTables x = new CountTables();
        Texts.feed(x, text);
        due(4, "table() of " + text, x.table(), -4);
        due(5, "fault(0) of " + text, x.fault(0), kind);
        due(5, "fault(1) of " + text, x.fault(1), place);
    }

    private static void faults() {
        CountTables x = new CountTables();
        due(5, "fault(0) ahead of any", x.fault(0), 0);
        due(5, "fault(1) ahead of any", x.fault(1), -1);
        due(5, "fault(2)", x.fault(2), -1);
        due(5, "fault(-1)", x.fault(-1), -1);
        Texts.feed(x, ";");
        x.table();
        due(5, "fault(0)", x.fault(0), 1);
        due(5, "fault(1)", x.fault(1), 0);
        due(5, "fault(2)", x.fault(2), -1);
        Texts.feed(x, SMALL);
        x.table();
        due(5, "fault(0) without", x.fault(0), 0);
        due(5, "fault(1) without", x.fault(1), -1);
        fault("table rows 1 columns 2;", 2, 11);
        fault("table rows 5 columns 2;", 2, 11);
        fault("table rows 2 columns 1;", 2, 21);
        fault("table rows 2 columns 5;", 2, 21);
        fault("table rows 4294967298 columns 2;", 2, 11);
        fault("table rows 2 columns 18446744073709551618;", 2, 21);
        fault("table rows two columns 2;", 1, 11);
        fault("tables rows 2 columns 2;", 1, 0);
        fault("tabl rows 2 columns 2;", 1, 0);
        fault("Table rows 2 columns 2;", 1, 0);
        fault("table columns 2 rows 2;", 1, 6);
        fault("table rows 2 columns 2", 1, 22);
        fault("table rows 2 columns 2 \n", 1, 24);
        fault("table rows 2 columns 2;;", 1, 23);
        fault("table rows 2 columns 2;table rows 2 columns 2;", 1, 23);
        fault("table rows 2 columns 2;hole 0 0;", 1, 23);
        fault("table rows 2 columns 2;row 1\t1;", 1, 28);
        fault("table rows 2 columns 2;row 10 1;", 2, 27);
        fault("table rows 2 columns 2;row -1 1;", 1, 27);
        fault("table rows 2 columns 2;row 1 1 1;", 1, 31);
        fault("table rows 2 columns 2;row 9 9;row 2 1;", 2, 37);
        fault("table rows 2 columns 2;row 9 9;row 3", 2, 35);
        fault(SMALL + "row 0 0;", 1, 39);
        fault(SMALL + "hole 1;", 1, 45);
        fault(SMALL + "hole 2 0;", 2, 44);
        fault(SMALL + "hole 1 2;", 2, 46);
        fault(SMALL + "hole 1 1;", 2, 46);
        fault(SMALL + "hole 1 0;hole 1 0;", 2, 55);
        fault(SMALL + "hole 1 0", 1, 47);
        fault(SMALL + "hole 1 0 0;", 1, 48);
        fault(SMALL + "hole 10;", 2, 44);
        fault(SMALL + "hole 1 0;row 0 0;", 1, 48);
        fault(SMALL + "\u00e9", 1, 39);
        fault(SMALL + "\u0000", 1, 39);
    }

    /** As many holes as cells, and what comes behind them. */
    private static void allHoles() {
        StringBuilder text = new StringBuilder("table rows 4 columns 4;");
        for (int y = 0; y < 4; y++) {
            text.append("row 0 0 0 0;");
        }
        for (int i = 0; i < 16; i++) {
            text.append("hole ").append(i / 4).append(' ').append(i % 4).append(';');
        }
        CountTables x = of(text.toString());
        due(4, "lines", x.count(5), 21);
        due(6, "holes", x.count(3), 16);
        due(11, "tables()", x.tables(), 1);
        due(16, "fixed()", x.fixed(), 0);
        due(28, "swaps()", x.swaps(), 0);
        due(37, "ways(1, 0)", x.ways(1, 0), 144);
        fault(text + "hole 3 3;", 2, 222);
        fault(text + ";", 1, 215);
        fault(text + "hole", 1, 219);
    }

    private static void cellsAndSums() {
        CountTables x = of("table rows 2 columns 3;row 1 0 2;row 4 0 9;hole 0 1;hole 1 1;");
        int[] counts = {2, 3, 16, 2, 0, 5, 0};
        for (int i = 0; i < counts.length; i++) {
            due(6, "count(" + i + ")", x.count(i), counts[i]);
        }
        due(6, "count(7)", x.count(7), -1);
        due(6, "count(-1)", x.count(-1), -1);
        int[][] cells = {{1, 0, 2}, {4, 0, 9}};
        for (int row = -1; row <= 2; row++) {
            for (int column = -1; column <= 3; column++) {
                boolean is = row >= 0 && row < 2 && column >= 0 && column < 3;
                String at = "(" + row + ", " + column + ")";
                due(7, "cell" + at, x.cell(row, column), is ? cells[row][column] : -2);
                due(8, "hole" + at, x.hole(row, column), is ? column == 1 ? 1 : 0 : -2);
            }
        }
        due(9, "row(0)", x.row(0), 3);
        due(9, "row(1)", x.row(1), 13);
        due(9, "row(2)", x.row(2), -2);
        due(9, "row(-1)", x.row(-1), -2);
        due(10, "column(0)", x.column(0), 5);
        due(10, "column(1)", x.column(1), 0);
        due(10, "column(2)", x.column(2), 11);
        due(10, "column(3)", x.column(3), -2);
        due(10, "column(-1)", x.column(-1), -2);
        x.swap(0, 1, 0, 2);
        due(7, "cell(0, 0) by acts", x.cell(0, 0), 2);
        due(7, "cell(1, 2) by acts", x.cell(1, 2), 10);
        due(6, "count(4)", x.count(4), 1);
        due(9, "row(0) is kept", x.row(0), 3);
        due(10, "column(2) is kept", x.column(2), 11);
    }

    private static void fiber() {
        due(11, "tables() of 2 x 2", of(SMALL).tables(), 3);
        due(11, "tables() of permutations", of(PLACES).tables(), 6);
        due(11, "tables() with holes", of(TURNING).tables(), 2);
        CountTables great = of(GREAT);
        due(11, "tables() of all sums 5", great.tables(), 40176);
        due(12, "rank(): the last", great.rank(), 40175);
        due(13, "of the last", great.of(40175, 3, 3), 5);
        due(13, "of the first", great.of(0, 0, 3), 5);
        due(13, "of none", great.of(40176, 0, 0), -2);
        // 9 by acts: 14 is the most that a cell can ever be
        CountTables x = of("table rows 2 columns 2;row 9 5;row 6 0;");
        due(11, "tables() of a full cell", x.tables(), 6);
        due(15, "most(0, 0)", x.most(0, 0), 14);
        due(13, "of(5, 0, 0)", x.of(5, 0, 0), 14);
        CountTables p = of(PLACES);
        int[][] order = {{2, 1, 0}, {2, 0, 1}, {1, 2, 0}, {1, 0, 2}, {0, 2, 1}, {0, 1, 2}};
        for (int rank = 0; rank < 6; rank++) {
            for (int row = 0; row < 3; row++) {
                for (int column = 0; column < 3; column++) {
                    due(13, "of(" + rank + ", " + row + ", " + column + ")",
                            p.of(rank, row, column), order[rank][row] == column ? 1 : 0);
                }
            }
        }
        due(12, "rank()", p.rank(), 5);
        p.swap(0, 1, 1, 0);
        due(12, "rank() by acts", p.rank(), 3);
        due(13, "of(-1, 0, 0)", p.of(-1, 0, 0), -2);
        due(13, "of(6, 0, 0)", p.of(6, 0, 0), -2);
        due(13, "of(1L << 32, 0, 0)", p.of(1L << 32, 0, 0), -2);
        due(13, "of(0, 3, 0)", p.of(0, 3, 0), -2);
        due(13, "of(0, 0, -1)", p.of(0, 0, -1), -2);
    }

    private static void cellsOfTheFiber() {
        CountTables x = of(SMALL);
        int[][] least = {{0, 1}, {0, 1}};
        int[][] most = {{2, 3}, {2, 3}};
        for (int row = 0; row < 2; row++) {
            for (int column = 0; column < 2; column++) {
                due(14, "least", x.least(row, column), least[row][column]);
                due(15, "most", x.most(row, column), most[row][column]);
                for (int v = 0; v <= 20; v++) {
                    boolean can = v >= least[row][column] && v <= most[row][column];
                    due(17, "having " + v, x.having(row, column, v), can ? 1 : 0);
                }
            }
        }
        due(14, "least(2, 0)", x.least(2, 0), -2);
        due(15, "most(0, 2)", x.most(0, 2), -2);
        due(17, "having(0, 0, -1)", x.having(0, 0, -1), -2);
        due(17, "having(0, 0, 21)", x.having(0, 0, 21), -2);
        due(17, "having(-1, 0, 0)", x.having(-1, 0, 0), -2);
        due(16, "fixed()", x.fixed(), 0);
        // the first row is nought, so all is fixed but the hole: cells 0, 1 and 3, 4, 5
        CountTables f = of("table rows 2 columns 3;row 0 0 0;row 1 2 0;hole 0 2;");
        due(16, "fixed()", f.fixed(), 0b111011);
        // row 1 and column 2 are nought: they are fixed, the other four cells are not
        CountTables g = of("table rows 3 columns 3;row 1 1 0;row 0 0 0;row 1 0 0;");
        due(16, "fixed()", g.fixed(), 0b100111100);
        CountTables p = of(PLACES);
        due(17, "having(1, 1, 1)", p.having(1, 1, 1), 2);
        due(17, "having(1, 1, 0)", p.having(1, 1, 0), 4);
        due(18, "mean above", p.mean(1, 1, 0), 1);
        due(18, "mean below", p.mean(1, 1, 1), 3);
        due(18, "mean of what 2", p.mean(1, 1, 2), -2);
        due(18, "mean of what -1", p.mean(1, 1, -1), -2);
        due(18, "mean(3, 0, 0)", p.mean(3, 0, 0), -2);
        CountTables t = of(TURNING);
        due(18, "mean of a hole above", t.mean(1, 1, 0), 0);
        due(18, "mean of a hole below", t.mean(1, 1, 1), 1);
        due(14, "least of a hole", t.least(1, 1), 0);
        due(15, "most of a hole", t.most(1, 1), 0);
        due(15, "most beside a hole", t.most(1, 0), 1);
    }

    private static void weights() {
        // weights by rank: 1 * 3, 3 * 3, 3 * 1
        CountTables x = of(SMALL);
        due(19, "weight()", x.weight(), 3);
        due(20, "weights()", x.weights(), 15);
        due(21, "heaviest()", x.heaviest(), 1);
        due(22, "lightest()", x.lightest(), 0);
        x.swap(0, 1, 1, 0);
        due(19, "weight() by acts", x.weight(), 9);
        due(20, "weights() stay", x.weights(), 15);
        CountTables great = of(GREAT);
        due(19, "weight()", great.weight(), 1);
        due(20, "weights(): 20! / 5! ^ 4", great.weights(), 11732745024L);
        due(22, "lightest(): all in one line each", great.lightest(), 0);
        long rank = great.heaviest();
        long ways = 1;
        for (int row = 0; row < 4; row++) {
            ways *= 120;
            for (int column = 0; column < 4; column++) {
                int v = great.of(rank, row, column);
                ways /= v == 2 ? 2 : 1;
                due(21, "cells of the heaviest are 1 and 2", v == 1 || v == 2 ? 1 : 0, 1);
            }
        }
        due(21, "weight of the heaviest", ways, 60L * 60 * 60 * 60);
        due(21, "the first of several has its 2 last", great.of(rank, 0, 3), 2);
        CountTables p = of(PLACES);
        due(21, "heaviest(), all alike", p.heaviest(), 0);
        due(22, "lightest(), all alike", p.lightest(), 0);
    }

    private static void statistics() {
        // by rank: [0 3; 2 1], [1 2; 1 2], [2 1; 0 3]; product of all sums 72
        CountTables x = of(SMALL);
        long[][] values = {{3, 9, 3}, {108, 72, 108}, {14, 15, 16}, {3, 2, 3}};
        long[][] extremes = {{2, 3, 2}, {2, 3, 2}, {3, 2, 1}, {2, 3, 2}};
        long[][] above = {{2, 1, 2}, {2, 1, 2}, {1, 4, 1}, {2, 1, 2}};
        long[][] below = {{5, 1, 5}, {5, 1, 5}, {1, 5, 5}, {5, 1, 5}};
        for (int rank = 2; rank >= 0; rank--) {
            for (int which = 0; which < 4; which++) {
                String by = "(" + which + ") at rank " + rank;
                due(23, "statistic" + by, x.statistic(which), values[which][rank]);
                due(24, "extreme" + by, x.extreme(which), extremes[which][rank]);
                due(25, "share above" + by, x.share(which, 0), above[which][rank]);
                due(25, "share below" + by, x.share(which, 1), below[which][rank]);
            }
            x.swap(0, 1, 1, 0);
        }
        for (int which : new int[] {-1, 4}) {
            due(23, "statistic of none", x.statistic(which), -2);
            due(24, "extreme of none", x.extreme(which), -2);
            due(25, "share of none", x.share(which, 0), -2);
        }
        due(25, "share(0, 2)", x.share(0, 2), -2);
        due(25, "share(0, -1)", x.share(0, -1), -2);
        // 24 tables have all in one cell of each line; each weighs 1
        CountTables great = of(GREAT);
        due(24, "extreme(0)", great.extreme(0), 24);
        due(24, "extreme(1)", great.extreme(1), 24);
        due(24, "extreme(2)", great.extreme(2), 1);
        due(25, "share(0, 0)", great.share(0, 0), 1);
        due(25, "share(0, 1)", great.share(0, 1), 488864376L);
        due(25, "share(2, 1)", great.share(2, 1), 11732745024L);
        due(23, "statistic(1)", great.statistic(1), 4 * 25L * 390625 / 25);
        due(23, "statistic(2)", great.statistic(2), 5 * (1 + 4 + 9 + 16));
        CountTables nought = of("table rows 2 columns 2;row 0 0;row 0 0;");
        due(23, "statistic(0) of nought", nought.statistic(0), 1);
        due(23, "statistic(1) of nought", nought.statistic(1), 0);
        due(23, "statistic(3) of nought", nought.statistic(3), 0);
        due(24, "extreme(1) of nought", nought.extreme(1), 1);
    }

    private static void bySumsAlone() {
        // by sums alone [1 2; 1 2]; told [2 1; 0 3]: 1 + 1/2 + 1 + 1/2
        CountTables x = of(SMALL);
        due(26, "chi()", x.chi(), Double.doubleToLongBits(3.0));
        due(27, "excess(0, 0)", x.excess(0, 0), Float.floatToIntBits(1f));
        due(27, "excess(1, 0)", x.excess(1, 0), Float.floatToIntBits(-1f));
        x.swap(0, 1, 1, 0);
        due(26, "chi() by acts", x.chi(), 0);
        due(27, "excess() by acts, never -0", x.excess(0, 1), 0);
        due(27, "excess(2, 0)", x.excess(2, 0), -2);
        due(27, "excess(0, -1)", x.excess(0, -1), -2);
        // by sums alone each cell would be 1 / 3, holes too
        CountTables t = of(TURNING);
        float third = 1f / 3f;
        due(27, "excess(0, 1)", t.excess(0, 1), Float.floatToIntBits(1f - third));
        due(27, "excess of a hole", t.excess(0, 0), Float.floatToIntBits(0f - third));
        double e = 1.0 / 3.0;
        double sum = 0;
        for (int i = 0; i < 9; i++) {
            double v = i == 1 || i == 5 || i == 6 ? 1 : 0;
            sum = sum + (v - e) * (v - e) / e;
        }
        due(26, "chi()", t.chi(), Double.doubleToLongBits(sum));
        // a column of nought is passed over; products 4 and 2 by total 3
        CountTables z = of("table rows 2 columns 3;row 2 0 0;row 0 0 1;");
        double a = 4.0 / 3.0;
        double b = 2.0 / 3.0;
        double c = 1.0 / 3.0;
        double chi = (2 - a) * (2 - a) / a + (0 - b) * (0 - b) / b;
        chi = chi + (0 - b) * (0 - b) / b;
        chi = chi + (1 - c) * (1 - c) / c;
        due(26, "chi()", z.chi(), Double.doubleToLongBits(chi));
        due(27, "excess(0, 2)", z.excess(0, 2), Float.floatToIntBits(0f - 2f / 3f));
        CountTables nought = of("table rows 2 columns 2;row 0 0;row 0 0;");
        due(26, "chi() of nought", nought.chi(), 0);
        due(27, "excess() of nought", nought.excess(1, 1), 0);
    }

    private static void swapsAndClasses() {
        due(28, "swaps() at an end", of(SMALL).swaps(), 1);
        // three pairs can change places
        CountTables p = of(PLACES);
        due(28, "swaps() of a permutation", p.swaps(), 3);
        due(29, "classes()", p.classes(), 1);
        due(30, "joined()", p.joined(), 1);
        due(31, "classOf(5)", p.classOf(5), 0);
        due(32, "sized(5)", p.sized(5), 6);
        CountTables t = of(TURNING);
        due(28, "swaps() among holes", t.swaps(), 0);
        due(29, "classes() among holes", t.classes(), 2);
        due(30, "joined() by turns", t.joined(), 1);
        due(31, "classOf(0)", t.classOf(0), 0);
        due(31, "classOf(1)", t.classOf(1), 1);
        due(32, "sized(0)", t.sized(0), 1);
        due(31, "classOf(2)", t.classOf(2), -2);
        due(31, "classOf(-1)", t.classOf(-1), -2);
        due(32, "sized(2)", t.sized(2), -2);
        // two rows share two columns, the two others the two others: two by two, all joined
        CountTables pairs = of("table rows 4 columns 4;row 0 1 0 0;row 0 0 1 0;row 0 0 0 1;"
                + "row 1 0 0 0;hole 0 0;hole 0 2;hole 1 1;hole 1 3;hole 2 2;hole 2 0;hole 3 3;"
                + "hole 3 1;");
        due(11, "tables() of two pairs", pairs.tables(), 4);
        due(29, "classes() of two pairs", pairs.classes(), 1);
        // each row has its own column and the next one's: neither swaps nor turns of three lead over
        CountTables ring = of("table rows 4 columns 4;row 1 0 0 0;row 0 1 0 0;row 0 0 1 0;"
                + "row 0 0 0 1;hole 0 2;hole 0 3;hole 1 0;hole 1 3;hole 2 0;hole 2 1;hole 3 1;"
                + "hole 3 2;");
        due(11, "tables() of a ring", ring.tables(), 2);
        due(29, "classes() of a ring", ring.classes(), 2);
        due(30, "joined() of a ring", ring.joined(), 2);
        due(28, "swaps() where a cell has many", of("table rows 2 columns 2;row 3 3;row 3 3;")
                .swaps(), 2);
    }

    private static void distances() {
        CountTables x = of(SMALL);
        due(33, "apart(0, 2)", x.apart(0, 2), 2);
        due(33, "apart(2, 0)", x.apart(2, 0), 2);
        due(33, "apart(1, 2)", x.apart(1, 2), 1);
        due(33, "apart(1, 1)", x.apart(1, 1), 0);
        due(33, "apart(0, 3)", x.apart(0, 3), -2);
        due(33, "apart(-1, 0)", x.apart(-1, 0), -2);
        due(33, "apart where none lead", of(TURNING).apart(0, 1), -1);
        due(34, "far()", x.far(), 2);
        due(35, "farthest()", x.farthest(), 0);
        due(36, "within(0)", x.within(0), 1);
        due(36, "within(1)", x.within(1), 2);
        due(36, "within(40)", x.within(40), 3);
        due(36, "within(41)", x.within(41), -2);
        due(36, "within(-1)", x.within(-1), -2);
        x.swap(0, 1, 1, 0);
        due(34, "far() by acts", x.far(), 1);
        due(35, "farthest(), the least of two", x.farthest(), 0);
        due(36, "within(1) by acts", x.within(1), 3);
        // the two that turn all three are two swaps away, the three others one
        CountTables p = of(PLACES);
        due(34, "far()", p.far(), 2);
        due(35, "farthest()", p.farthest(), 1);
        due(36, "within(1)", p.within(1), 4);
        CountTables t = of(TURNING);
        due(34, "far() alone", t.far(), 0);
        due(35, "farthest() alone", t.farthest(), t.rank());
        due(36, "within(40) alone", t.within(40), 1);
    }

    private static void rowsOfChoices() {
        CountTables x = of(SMALL);
        long[][] ways = {{0, 0, 1}, {0, 2, 2}, {4, 4, 8}, {16, 24, 24}, {80, 80, 96}};
        for (int n = 0; n <= 4; n++) {
            for (int rank = 0; rank < 3; rank++) {
                due(37, "ways(" + n + ", " + rank + ")", x.ways(n, rank), ways[n][rank]);
            }
        }
        due(37, "ways(-1, 0)", x.ways(-1, 0), -2);
        due(37, "ways(5, 0)", x.ways(5, 0), -2);
        due(37, "ways(0, 3)", x.ways(0, 3), -2);
        due(37, "ways(0, -1)", x.ways(0, -1), -2);
        // of 36 choices each of three swaps is two
        CountTables p = of(PLACES);
        due(37, "ways(1, 5)", p.ways(1, 5), 30);
        due(37, "ways(1, 4)", p.ways(1, 4), 2);
        due(37, "ways(1, 1)", p.ways(1, 1), 0);
        due(37, "ways(2, 1)", p.ways(2, 1), 12);
        CountTables one = of("table rows 4 columns 4;row 1 0 0 0;row 0 0 0 0;row 0 0 0 0;"
                + "row 0 0 0 0;");
        due(37, "ways(4, 0) where all stay", one.ways(4, 0), 144L * 144 * 144 * 144);
    }

    private static void draws() {
        CountTables x = of(SMALL);
        due(39, "evenly()", x.evenly(), 357913941);
        due(38, "drawn(0)", x.drawn(0), 0);
        due(38, "drawn(4)", x.drawn(4), 1);
        due(38, "drawn(1073741822)", x.drawn(1073741822), 2);
        due(38, "drawn(1073741823)", x.drawn(1073741823), -1);
        due(38, "drawn(1073741824)", x.drawn(1073741824), -2);
        due(38, "drawn(-1)", x.drawn(-1), -2);
        CountTables t = of(TURNING);
        due(39, "evenly() of two", t.evenly(), 536870912);
        due(38, "drawn(1073741823) of two", t.drawn(1073741823), 1);
        CountTables great = of(GREAT);
        due(39, "evenly() of 40,176", great.evenly(), 26725);
        due(38, "drawn(40177)", great.drawn(40177), 1);
        due(38, "the last word that draws", great.drawn(26725 * 40176 - 1), 40175);
        due(38, "the first that does not", great.drawn(26725 * 40176), -1);
        CountTables one = of("table rows 2 columns 2;row 9 0;row 0 0;");
        due(39, "evenly() of one", one.evenly(), 1073741824);
        due(38, "drawn(1073741823) of one", one.drawn(1073741823), 0);
    }

    private static void swapping() {
        CountTables x = of(SMALL);
        due(40, "below 0", x.swap(0, 1, 0, 1), -5);
        due(40, "swap(0, 1, 1, 0)", x.swap(0, 1, 1, 0), 0);
        due(40, "1 less in (0, 0)", x.cell(0, 0), 1);
        due(40, "1 more in (0, 1)", x.cell(0, 1), 2);
        due(40, "1 more in (1, 0)", x.cell(1, 0), 1);
        due(40, "1 less in (1, 1)", x.cell(1, 1), 2);
        due(40, "r and s alike", x.swap(1, 1, 0, 1), -2);
        due(40, "c and d alike", x.swap(0, 1, 0, 0), -2);
        due(40, "no such row", x.swap(0, 2, 0, 1), -2);
        due(40, "no such row", x.swap(-1, 0, 0, 1), -2);
        due(40, "no such column", x.swap(0, 1, 0, 2), -2);
        due(40, "no such column", x.swap(0, 1, -1, 0), -2);
        due(40, "one act", x.count(4), 1);
        for (int i = 1; i < 20; i++) {
            due(40, "act " + i, i % 2 == 1 ? x.swap(1, 0, 1, 0) : x.swap(0, 1, 1, 0), 0);
        }
        due(40, "count(4)", x.count(4), 20);
        due(40, "20 acts", x.swap(0, 1, 1, 0), -5);
        due(40, "-2 ahead of -5", x.swap(0, 0, 1, 0), -2);
        due(40, "count(4)", x.count(4), 20);
        // two rows of two that could be swapped but for the hole, each time at another of the four
        for (int hole = 0; hole < 2; hole++) {
            CountTables h = of("table rows 2 columns 3;row 1 0 1;row 0 1 1;hole " + hole + " "
                    + (1 - hole) + ";");
            due(40, "a hole would get 1", h.swap(0, 1, 1, 0), -5);
            due(40, "nothing happens", h.count(4), 0);
            due(40, "beside the hole", hole == 0 ? h.swap(0, 1, 2, 0) : h.swap(0, 1, 1, 2), 0);
            due(40, "what would take from a hole", h.swap(0, 1, 0, 1), -5);
        }
    }

    private static void walking() {
        // x by seed 0: 12345, 1406932606, 654583775, 1449466924: cut and modulo 2, 1, 2, 1
        CountTables x = of(SMALL);
        due(41, "walk(1, 0)", x.walk(1, 0), 0);
        due(41, "count(4), an act", x.count(4), 1);
        due(41, "rank()", x.rank(), 2);
        for (int n : new int[] {0, -1, 1001}) {
            due(41, "walk(" + n + ", 0)", x.walk(n, 0), -2);
        }
        for (int seed : new int[] {-1, 2000000001}) {
            due(41, "walk(1, " + seed + ")", x.walk(1, seed), -2);
        }
        due(41, "count(4)", x.count(4), 1);
        CountTables y = of(PLACES);
        due(41, "a walk step by step", y.walk(1000, 2000000000), walked(2000000000, 1000));
        for (int i = 1; i < 20; i++) {
            y.walk(1, i);
        }
        due(41, "count(4)", y.count(4), 20);
        due(41, "20 acts", y.walk(1, 0), -5);
        due(41, "-2 ahead of -5", y.walk(0, 0), -2);
        due(41, "undo() of a walk", y.undo(), 19);
    }

    /** The same walk by single swaps of an object of its own, with its acts always taken back. */
    private static int walked(long seed, int n) {
        int[][] cells = {{1, 0, 0}, {0, 1, 0}, {0, 0, 1}};
        long x = seed;
        int done = 0;
        for (int i = 0; i < n; i++) {
            int[] draws = new int[4];
            int[] of = {3, 2, 3, 2};
            for (int k = 0; k < 4; k++) {
                x = Math.floorMod(1103515245L * x + 12345L, 2147483648L);
                draws[k] = (int) (x / 65536 % of[k]);
            }
            int r = draws[0];
            int s = draws[1] < r ? draws[1] : draws[1] + 1;
            int c = draws[2];
            int d = draws[3] < c ? draws[3] : draws[3] + 1;
            if (cells[r][d] > 0 && cells[s][c] > 0) {
                cells[r][c]++;
                cells[s][d]++;
                cells[r][d]--;
                cells[s][c]--;
                done++;
            }
        }
        return done;
    }

    private static void takingBack() {
        CountTables x = of(SMALL);
        due(42, "undo() of none", x.undo(), -5);
        due(43, "anew() of none", x.anew(), 0);
        x.swap(0, 1, 1, 0);
        x.walk(1, 0);
        x.swap(0, 1, 1, 0);
        due(42, "undo()", x.undo(), 2);
        due(42, "undo()", x.undo(), 1);
        due(42, "rank() behind it", x.rank(), 1);
        x.swap(0, 1, 1, 0);
        due(43, "anew()", x.anew(), 2);
        due(43, "rank() as told", x.rank(), 2);
        due(43, "count(4)", x.count(4), 0);
        due(42, "undo() of none", x.undo(), -5);
    }

    /** Not listed: -3 ahead of a rank that is none, behind an n that is none. */
    private static void wrongOnes() {
        CountTables x = of(GREAT);
        due(29, "classes()", x.classes(), -3);
        due(30, "joined()", x.joined(), -3);
        due(31, "classOf(-1)", x.classOf(-1), -3);
        due(32, "sized(0)", x.sized(0), -3);
        due(33, "apart(0, -1)", x.apart(0, -1), -3);
        due(34, "far()", x.far(), -3);
        due(35, "farthest()", x.farthest(), -3);
        due(36, "within(0)", x.within(0), -3);
        due(36, "within(41)", x.within(41), -2);
        due(37, "ways(0, -1)", x.ways(0, -1), -3);
        due(37, "ways(5, 0)", x.ways(5, 0), -2);
        due(28, "swaps() of all", x.swaps(), 6);
        CountTables last = of("table rows 4 columns 4;row 0 2 1 1;row 0 0 0 2;row 1 1 1 1;"
                + "row 2 0 1 1;hole 1 1;hole 1 2;");
        due(11, "tables()", last.tables(), 1000);
        due(29, "classes() of 1,000", last.classes(), 1);
        due(32, "sized(999)", last.sized(999), 1000);
        due(31, "classOf(1000)", last.classOf(1000), -2);
        CountTables first = of("table rows 4 columns 3;row 0 1 4;row 3 0 2;row 1 1 2;row 0 2 2;");
        due(11, "tables()", first.tables(), 1001);
        due(29, "classes() of 1,001", first.classes(), -3);
    }
}
