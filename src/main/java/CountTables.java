import java.util.Arrays;

/**
 * Tables of counts with told sums of rows and columns. ../shared/DOC.md says what each call
 * answers; this file says only why it is done the way it is.
 */
public final class CountTables {
    public static final int NONE = -1;

    private static final int ABSENT = -2;
    private static final int UNLISTED = -3;
    private static final int FAULTY = -4;
    private static final int REFUSED = -5;

    private static final int SIDE = 4;
    private static final int CELLS = SIDE * SIDE;
    private static final int TOTAL_LIMIT = 20;
    private static final int STATISTICS = 4;
    private static final int LISTED = 1000;
    private static final int REACH = 40;
    private static final int MOST_CHOICES = 4;
    private static final int WALK_LIMIT = 1000;
    private static final int SEED_LIMIT = 2000000000;
    private static final int WORDS = 1 << 30;

    private final Tape tape;
    private final Reader reader;
    private final Sheet sheet;
    private final Dice dice;
    private final Moves moves;
    private final Fiber fiber;
    private final Measures measures;
    private final Net net;

    public CountTables() {
        tape = new Tape();
        reader = new Reader();
        sheet = new Sheet();
        dice = new Dice();
        moves = new Moves();
        fiber = new Fiber();
        measures = new Measures(fiber);
        net = new Net(fiber, moves);
    }

    public int feed(int a, int b, int c, int d, int e) {
        if (!tape.hasRoom()) {
            return NONE;
        }
        tape.put(a);
        tape.put(b);
        tape.put(c);
        tape.put(d);
        tape.put(e);
        return tape.length;
    }

    public int end(int n) {
        if (n < 0 || n > tape.length) {
            return NONE;
        }
        tape.length = n;
        return n;
    }

    public int table() {
        boolean sound = reader.read(tape);
        tape.length = 0;
        if (!sound) {
            return FAULTY;
        }
        sheet.take(reader);
        if (sheet.isTold()) {
            moves.make(sheet);
            fiber.make(sheet);
        }
        measures.forget();
        net.forget();
        return sheet.lines;
    }

    public int fault(int what) {
        switch (what) {
            case 0:
                return reader.fault;
            case 1:
                return reader.place;
            default:
                return NONE;
        }
    }

    public int count(int what) {
        switch (what) {
            case 0:
                return sheet.rows;
            case 1:
                return sheet.columns;
            case 2:
                return sheet.total;
            case 3:
                return Integer.bitCount(sheet.holes);
            case 4:
                return sheet.acts;
            case 5:
                return sheet.lines;
            case 6:
                return tape.length;
            default:
                return NONE;
        }
    }

    public int cell(int row, int column) {
        return sheet.has(row, column) ? sheet.at(row, column) : ABSENT;
    }

    public int hole(int row, int column) {
        if (!sheet.has(row, column)) {
            return ABSENT;
        }
        return sheet.isHole(row, column) ? 1 : 0;
    }

    public int row(int row) {
        return sheet.has(row, 0) ? sheet.rowSums[row] : ABSENT;
    }

    public int column(int column) {
        return sheet.has(0, column) ? sheet.columnSums[column] : ABSENT;
    }

    public long tables() {
        return sheet.isTold() ? fiber.size() : ABSENT;
    }

    public long rank() {
        return sheet.isTold() ? fiber.rankOf(sheet.now) : ABSENT;
    }

    public int of(long rank, int row, int column) {
        if (!sheet.has(row, column) || rank < 0 || rank >= fiber.size()) {
            return ABSENT;
        }
        return Grid.get(fiber.cellsOf(rank), Grid.shift(row, column));
    }

    public int least(int row, int column) {
        return sheet.has(row, column) ? fiber.lowestOf(row, column) : ABSENT;
    }

    public int most(int row, int column) {
        return sheet.has(row, column) ? fiber.highestOf(row, column) : ABSENT;
    }

    public int fixed() {
        if (!sheet.isTold()) {
            return ABSENT;
        }
        int bits = 0;
        for (int y = 0; y < sheet.rows; y++) {
            for (int x = 0; x < sheet.columns; x++) {
                if (!sheet.isHole(y, x) && fiber.lowestOf(y, x) == fiber.highestOf(y, x)) {
                    bits |= 1 << (y * sheet.columns + x);
                }
            }
        }
        return bits;
    }

    public long having(int row, int column, int v) {
        if (!sheet.has(row, column) || v < 0 || v > TOTAL_LIMIT) {
            return ABSENT;
        }
        return fiber.timesSeen(row, column, v);
    }

    public long mean(int row, int column, int what) {
        if (!sheet.has(row, column)) {
            return ABSENT;
        }
        return Numbers.lowest(fiber.sumSeen(row, column), fiber.size(), what);
    }

    public long weight() {
        return sheet.isTold() ? measures.valueOf(0, sheet.now) : ABSENT;
    }

    public long weights() {
        return sheet.isTold() ? fiber.heft() : ABSENT;
    }

    public long heaviest() {
        return sheet.isTold() ? measures.firstHeaviest() : ABSENT;
    }

    public long lightest() {
        return sheet.isTold() ? measures.firstLightest() : ABSENT;
    }

    public long statistic(int which) {
        return hasStatistic(which) ? measures.valueOf(which, sheet.now) : ABSENT;
    }

    public long extreme(int which) {
        return hasStatistic(which) ? measures.farOut(which, sheet.now) : ABSENT;
    }

    public long share(int which, int what) {
        if (!hasStatistic(which)) {
            return ABSENT;
        }
        return Numbers.lowest(measures.farOutHeft(which, sheet.now), fiber.heft(), what);
    }

    public long chi() {
        return sheet.isTold() ? Numbers.bitsOfDouble(sheet.chiSum()) : ABSENT;
    }

    public int excess(int row, int column) {
        return sheet.has(row, column) ? Numbers.bitsOfFloat(sheet.over(row, column)) : ABSENT;
    }

    public int swaps() {
        return sheet.isTold() ? moves.swapsOn(sheet.now) : ABSENT;
    }

    public int classes() {
        int refusal = refusalOfList();
        return refusal != 0 ? refusal : net.classTotal();
    }

    public int joined() {
        int refusal = refusalOfList();
        return refusal != 0 ? refusal : net.joinedTotal();
    }

    public int classOf(int rank) {
        int refusal = refusalOfRank(rank);
        return refusal != 0 ? refusal : net.headOf(rank);
    }

    public int sized(int rank) {
        int refusal = refusalOfRank(rank);
        return refusal != 0 ? refusal : net.classSize(rank);
    }

    public int apart(int rank, int other) {
        int refusal = refusalOfRank(rank);
        if (refusal == 0) {
            refusal = refusalOfRank(other);
        }
        return refusal != 0 ? refusal : net.distance(rank, other);
    }

    public int far() {
        int refusal = refusalOfList();
        return refusal != 0 ? refusal : net.greatestDistance(rankNow());
    }

    public int farthest() {
        int refusal = refusalOfList();
        return refusal != 0 ? refusal : net.firstAtGreatest(rankNow());
    }

    public int within(int n) {
        if (n < 0 || n > REACH) {
            return ABSENT;
        }
        int refusal = refusalOfList();
        return refusal != 0 ? refusal : net.reached(rankNow(), n);
    }

    public long ways(int n, int rank) {
        if (n < 0 || n > MOST_CHOICES) {
            return ABSENT;
        }
        int refusal = refusalOfRank(rank);
        return refusal != 0 ? refusal : net.choiceRows(rankNow(), n, rank);
    }

    public long drawn(int word) {
        if (!sheet.isTold() || word < 0 || word >= WORDS) {
            return ABSENT;
        }
        long all = fiber.size();
        if (all <= 0 || word >= evenWords() * all) {
            return NONE;
        }
        return word % all;
    }

    public int evenly() {
        return sheet.isTold() ? (int) evenWords() : ABSENT;
    }

    public int swap(int r, int s, int c, int d) {
        if (!sheet.has(r, c) || !sheet.has(s, d) || r == s || c == d) {
            return ABSENT;
        }
        if (sheet.isFull() || !sheet.canSwap(r, s, c, d)) {
            return REFUSED;
        }
        sheet.remember();
        sheet.doSwap(r, s, c, d);
        return 0;
    }

    public int walk(int n, int seed) {
        if (!sheet.isTold() || n < 1 || n > WALK_LIMIT || seed < 0 || seed > SEED_LIMIT) {
            return ABSENT;
        }
        if (sheet.isFull()) {
            return REFUSED;
        }
        sheet.remember();
        dice.start(seed);
        int done = 0;
        for (int i = 0; i < n; i++) {
            if (sheet.choose(dice)) {
                done++;
            }
        }
        return done;
    }

    public int undo() {
        if (!sheet.isTold()) {
            return ABSENT;
        }
        if (sheet.acts == 0) {
            return REFUSED;
        }
        sheet.goBackTo(sheet.acts - 1);
        return sheet.acts;
    }

    public int anew() {
        if (!sheet.isTold()) {
            return ABSENT;
        }
        int taken = sheet.acts;
        sheet.goBackTo(0);
        return taken;
    }

    private boolean hasStatistic(int which) {
        return sheet.isTold() && which >= 0 && which < STATISTICS;
    }

    private long evenWords() {
        return Numbers.quotient(WORDS, fiber.size());
    }

    private int rankNow() {
        return (int) fiber.rankOf(sheet.now);
    }

    private int refusalOfList() {
        if (!sheet.isTold()) {
            return ABSENT;
        }
        if (fiber.size() > LISTED) {
            return UNLISTED;
        }
        net.prepare();
        return 0;
    }

    private int refusalOfRank(int rank) {
        int refusal = refusalOfList();
        if (refusal != 0) {
            return refusal;
        }
        return rank < 0 || rank >= fiber.size() ? ABSENT : 0;
    }

    /** The bytes that have been fed and not yet been read. */
    private static final class Tape {
        private static final int LIMIT = 300;
        private static final int FED = 20;

        final int[] bytes = new int[LIMIT];
        int length;

        boolean hasRoom() {
            return length + FED <= LIMIT;
        }

        void put(int word) {
            for (int shift = 24; shift >= 0; shift -= 8) {
                if (length >= 0 && length < LIMIT) {
                    bytes[length] = (word >>> shift) & 255;
                    length++;
                }
            }
        }

        /** Behind the end stands a byte that no token has: a reader may look one further. */
        int byteAt(int place) {
            return place >= 0 && place < length && place < LIMIT ? bytes[place] : 0;
        }
    }

    /** Reads a text token by token; the first fault that it meets is the first by its place. */
    private static final class Reader {
        private static final int END = 0;
        private static final int WORD = 1;
        private static final int NUMBER = 2;
        private static final int SIGN = 3;
        private static final int STRANGE = 4;

        private static final int MISPLACED = 1;
        private static final int OUT_OF_BOUNDS = 2;

        private static final int FEWEST_LINES = 2;
        private static final int MOST_IN_CELL = 9;
        private static final int HUGE = 1000;

        int fault;
        int place = NONE;
        int rows;
        int columns;
        int lines;
        int holes;
        final int[] cells = new int[CELLS];
        private int total;
        private int kind;
        private int from;
        private int to;
        private int value;

        boolean read(Tape tape) {
            fault = 0;
            place = NONE;
            rows = 0;
            columns = 0;
            lines = 0;
            holes = 0;
            total = 0;
            to = 0;
            Arrays.fill(cells, 0);
            advance(tape);
            if (kind == END) {
                return true;
            }
            if (!readSizes(tape)) {
                return false;
            }
            for (int y = 0; y < rows; y++) {
                if (!readCounts(tape, y)) {
                    return false;
                }
            }
            // every cell can be a hole once only, so that a sound text has no more lines than that
            for (int i = 0; i <= CELLS && kind != END; i++) {
                if (!readHole(tape)) {
                    return false;
                }
            }
            return true;
        }

        private boolean readSizes(Tape tape) {
            if (!passWord(tape, "table") || !passWord(tape, "rows")
                    || !isNumber(FEWEST_LINES, SIDE)) {
                return false;
            }
            int high = value;
            advance(tape);
            if (!passWord(tape, "columns") || !isNumber(FEWEST_LINES, SIDE)) {
                return false;
            }
            int wide = value;
            advance(tape);
            if (!passSign(tape)) {
                return false;
            }
            rows = high;
            columns = wide;
            return true;
        }

        private boolean readCounts(Tape tape, int y) {
            if (!passWord(tape, "row")) {
                return false;
            }
            for (int x = 0; x < columns; x++) {
                if (!isNumber(0, MOST_IN_CELL)) {
                    return false;
                }
                if (total + value > TOTAL_LIMIT) {
                    return fail(OUT_OF_BOUNDS);
                }
                total += value;
                cells[SIDE * y + x] = value;
                advance(tape);
            }
            return passSign(tape);
        }

        private boolean readHole(Tape tape) {
            if (!passWord(tape, "hole") || !isNumber(0, rows - 1)) {
                return false;
            }
            int y = value;
            advance(tape);
            if (!isNumber(0, columns - 1)) {
                return false;
            }
            int index = SIDE * y + value;
            if ((holes >> index & 1) != 0 || index >= CELLS || cells[index] != 0) {
                return fail(OUT_OF_BOUNDS);
            }
            holes |= 1 << index;
            advance(tape);
            return passSign(tape);
        }

        private boolean passWord(Tape tape, String word) {
            if (kind != WORD || !isWord(tape, word)) {
                return fail(MISPLACED);
            }
            advance(tape);
            return true;
        }

        private boolean passSign(Tape tape) {
            if (kind != SIGN) {
                return fail(MISPLACED);
            }
            lines++;
            advance(tape);
            return true;
        }

        private boolean isNumber(int low, int high) {
            if (kind != NUMBER) {
                return fail(MISPLACED);
            }
            return value >= low && value <= high || fail(OUT_OF_BOUNDS);
        }

        private boolean isWord(Tape tape, String word) {
            if (to - from != word.length()) {
                return false;
            }
            for (int i = 0; i < word.length(); i++) {
                if (tape.byteAt(from + i) != word.charAt(i)) {
                    return false;
                }
            }
            return true;
        }

        private boolean fail(int which) {
            fault = which;
            place = from;
            return false;
        }

        private void advance(Tape tape) {
            from = to;
            while (from < tape.length && isBlank(tape.byteAt(from))) {
                from++;
            }
            to = from;
            kind = kindOf(tape, from);
            if (kind == WORD || kind == NUMBER) {
                while (to < tape.length && kindOf(tape, to) == kind) {
                    to++;
                }
                value = kind == NUMBER ? numberIn(tape) : 0;
            } else if (kind != END) {
                to++;
            }
        }

        /** A number of many digits stays huge: it must not wrap round into its bounds. */
        private int numberIn(Tape tape) {
            int number = 0;
            for (int at = from; at < to; at++) {
                number = Math.min(HUGE, 10 * number + tape.byteAt(at) - '0');
            }
            return number;
        }

        private static boolean isBlank(int sign) {
            return sign == ' ' || sign == '\n';
        }

        private static int kindOf(Tape tape, int at) {
            if (at >= tape.length) {
                return END;
            }
            int sign = tape.byteAt(at);
            if (sign >= 'a' && sign <= 'z') {
                return WORD;
            }
            if (sign >= '0' && sign <= '9') {
                return NUMBER;
            }
            return sign == ';' ? SIGN : STRANGE;
        }
    }

    /**
     * All cells of a table in one long, four bits each, the first cell in the highest: so a swap
     * is one addition. Four bits do, since r + c is at most TOTAL and the told cell (9 at most)
     * for the sums r, c of any cell, and no cell of the fiber is above the lesser of them: 14.
     */
    private static final class Grid {
        private static final int WIDTH = 4;

        private Grid() {
        }

        static int shift(int y, int x) {
            return WIDTH * (CELLS - 1 - SIDE * y - x);
        }

        static int get(long cells, int shift) {
            return (int) (cells >>> shift) & 15;
        }

        static long one(int y, int x) {
            return 1L << shift(y, x);
        }

        static long swapStep(int r, int s, int c, int d) {
            return one(r, c) + one(s, d) - one(r, d) - one(s, c);
        }

        /** A line is the four cells of one row, as the low 16 bits. */
        static int lineOf(long cells, int y) {
            return (int) (cells >>> shift(y, SIDE - 1)) & 65535;
        }

        static long withLine(long cells, int y, int line) {
            return cells | (long) line << shift(y, SIDE - 1);
        }

        static int inLine(int line, int x) {
            return line >> WIDTH * (SIDE - 1 - x) & 15;
        }

        static int putInLine(int line, int x, int v) {
            return line | v << WIDTH * (SIDE - 1 - x);
        }
    }

    /** Arithmetic that the library of this program does not have. */
    private static final class Numbers {
        private static final int EUCLID_STEPS = 200;
        private static final int MOST_EXPONENT = 1100;

        private Numbers() {
        }

        static long quotient(long above, long below) {
            return below == 0 ? 0 : above / below;
        }

        /** One side of a fraction in lowest terms: what 0 above, 1 below. */
        static long lowest(long above, long below, int what) {
            if (what != 0 && what != 1) {
                return ABSENT;
            }
            return quotient(what == 0 ? above : below, divisor(above, below));
        }

        private static long divisor(long a, long b) {
            long big = a;
            long small = b;
            for (int i = 0; i < EUCLID_STEPS && small != 0; i++) {
                long rest = big % small;
                big = small;
                small = rest;
            }
            return big;
        }

        /** For numbers that are not below 0: halving and doubling are exact, so no bit is lost. */
        static long bitsOfDouble(double number) {
            if (!(number > 0)) {
                return 0;
            }
            double part = number;
            long exponent = 1023;
            for (int i = 0; i < MOST_EXPONENT && part >= 2; i++) {
                part = part / 2;
                exponent++;
            }
            for (int i = 0; i < MOST_EXPONENT && part < 1; i++) {
                part = part * 2;
                exponent--;
            }
            return exponent << 52 | (long) ((part - 1) * (double) (1L << 52));
        }

        /** A double holds any float as it is, with 896 more in its exponent. */
        static int bitsOfFloat(float number) {
            long wide = bitsOfDouble((double) (number < 0 ? -number : number));
            if (wide == 0) {
                return 0;
            }
            int bits = (int) ((wide >>> 29) - (896L << 23));
            return number < 0 ? bits | 1 << 31 : bits;
        }
    }

    /** The draws of a walk. */
    private static final class Dice {
        private long x;

        void start(int seed) {
            x = seed;
        }

        int draw(int m) {
            x = (1103515245L * x + 12345) & 0x7fffffffL;
            return m <= 0 ? 0 : (int) (x / 65536 % m);
        }

        int drawOther(int m, int not) {
            int other = draw(m - 1);
            return other < not ? other : other + 1;
        }
    }

    /** The table as it was told, and as the acts have left it. */
    private static final class Sheet {
        private static final int MOST_ACTS = 20;

        int rows;
        int columns;
        int lines;
        int total;
        int holes;
        final int[] rowSums = new int[SIDE];
        final int[] columnSums = new int[SIDE];
        long now;
        int acts;
        private final long[] past = new long[MOST_ACTS];

        void take(Reader reader) {
            rows = reader.rows;
            columns = reader.columns;
            lines = reader.lines;
            holes = reader.holes;
            total = 0;
            now = 0;
            acts = 0;
            Arrays.fill(rowSums, 0);
            Arrays.fill(columnSums, 0);
            for (int y = 0; y < SIDE; y++) {
                for (int x = 0; x < SIDE; x++) {
                    int v = reader.cells[SIDE * y + x];
                    total += v;
                    rowSums[y] += v;
                    columnSums[x] += v;
                    now |= (long) v << Grid.shift(y, x);
                }
            }
        }

        boolean isTold() {
            return rows > 0;
        }

        boolean has(int y, int x) {
            return y >= 0 && y < rows && x >= 0 && x < columns;
        }

        int at(int y, int x) {
            return Grid.get(now, Grid.shift(y, x));
        }

        boolean isHole(int y, int x) {
            return (holes >> SIDE * y + x & 1) != 0;
        }

        boolean isFull() {
            return acts >= MOST_ACTS;
        }

        void remember() {
            if (acts >= 0 && acts < MOST_ACTS) {
                past[acts] = now;
                acts++;
            }
        }

        void goBackTo(int act) {
            if (act >= 0 && act < acts && act < MOST_ACTS) {
                now = past[act];
                acts = act;
            }
        }

        boolean canSwap(int r, int s, int c, int d) {
            return at(r, d) > 0 && at(s, c) > 0 && !isHole(r, c) && !isHole(s, d);
        }

        void doSwap(int r, int s, int c, int d) {
            now += Grid.swapStep(r, s, c, d);
        }

        boolean choose(Dice dice) {
            int r = dice.draw(rows);
            int s = dice.drawOther(rows, r);
            int c = dice.draw(columns);
            int d = dice.drawOther(columns, c);
            boolean can = canSwap(r, s, c, d);
            if (can) {
                doSwap(r, s, c, d);
            }
            return can;
        }

        private int product(int y, int x) {
            return has(y, x) ? rowSums[y] * columnSums[x] : 0;
        }

        float over(int y, int x) {
            float bySums = total <= 0 ? 0 : (float) product(y, x) / (float) total;
            return (float) at(y, x) - bySums;
        }

        double chiSum() {
            double sum = 0;
            for (int y = 0; y < rows; y++) {
                for (int x = 0; x < columns; x++) {
                    double bySums = total <= 0 ? 0 : (double) product(y, x) / (double) total;
                    if (bySums > 0) {
                        double off = (double) at(y, x) - bySums;
                        sum = sum + off * off / bySums;
                    }
                }
            }
            return sum;
        }
    }

    /**
     * Every line that a row can be by its sum, its holes and the sums of the columns, the rows one
     * behind the other, in order within each; and what each line adds to the four statistics.
     */
    private static final class Fills {
        /** No sums with TOTAL 20 at most give more than 294 in all rows. */
        private static final int LIMIT = 320;
        private static final int BITS = 6;
        private static final long[] FACTORIALS = {
            1L, 1L, 2L, 6L, 24L, 120L, 720L, 5040L, 40320L, 362880L, 3628800L, 39916800L,
            479001600L, 6227020800L, 87178291200L, 1307674368000L, 20922789888000L,
            355687428096000L, 6402373705728000L, 121645100408832000L, 2432902008176640000L,
        };

        final int[] start = new int[SIDE + 1];
        final int[] line = new int[LIMIT];
        /** What the line takes from the columns, six bits each. */
        final int[] taken = new int[LIMIT];
        /** The same as one number among all that the columns allow. */
        final int[] code = new int[LIMIT];
        final long[][] parts = new long[STATISTICS][LIMIT];
        private final int[] strides = new int[SIDE];
        private long scale;
        private int size;

        void make(Sheet sheet) {
            setStrides(sheet);
            setScale(sheet);
            size = 0;
            for (int y = 0; y < sheet.rows && y < SIDE; y++) {
                start[y] = size;
                lay(this, sheet, y, 0, sheet.rowSums[y], 0);
                start[y + 1] = size;
            }
        }

        int takenBy(int[] counts) {
            int bits = 0;
            for (int x = 0; x < SIDE && x < counts.length; x++) {
                bits |= counts[x] << BITS * x;
            }
            return bits;
        }

        int codeOf(int[] counts) {
            int number = 0;
            for (int x = 0; x < SIDE && x < counts.length; x++) {
                number += counts[x] * strides[x];
            }
            return number;
        }

        /** The last column has no stride: what is left of it follows from the others. */
        private void setStrides(Sheet sheet) {
            Arrays.fill(strides, 0);
            int stride = 1;
            for (int x = 0; x < sheet.columns - 1 && x < SIDE; x++) {
                strides[x] = stride;
                stride *= sheet.columnSums[x] + 1;
            }
        }

        private void setScale(Sheet sheet) {
            scale = 1;
            for (int i = 0; i < SIDE; i++) {
                scale *= Math.max(1, sheet.rowSums[i]);
                scale *= Math.max(1, sheet.columnSums[i]);
            }
        }

        private static void lay(Fills fills, Sheet sheet, int y, int x, int left, int cells) {
            if (x < 0 || x >= sheet.columns || x >= SIDE) {
                fills.keep(sheet, y, cells);
                return;
            }
            int top = sheet.isHole(y, x) ? 0 : Math.min(left, sheet.columnSums[x]);
            int v = x == sheet.columns - 1 ? left : 0;
            for (; v <= top; v++) {
                lay(fills, sheet, y, x + 1, left - v, Grid.putInLine(cells, x, v));
            }
        }

        private void keep(Sheet sheet, int y, int cells) {
            if (size < 0 || size >= LIMIT) {
                return;
            }
            line[size] = cells;
            taken[size] = 0;
            code[size] = 0;
            int sum = sheet.rowSums[y];
            parts[0][size] = factorial(sum);
            parts[1][size] = 0;
            parts[2][size] = 0;
            parts[3][size] = 0;
            for (int x = 0; x < SIDE; x++) {
                int v = Grid.inLine(cells, x);
                taken[size] |= v << BITS * x;
                code[size] += v * strides[x];
                long sums = (long) sum * sheet.columnSums[x];
                parts[0][size] = Numbers.quotient(parts[0][size], factorial(v));
                parts[1][size] += v * v * Numbers.quotient(scale, sums);
                parts[2][size] += v * (y + 1) * (x + 1);
                parts[3][size] = Math.max(parts[3][size], v);
            }
            size++;
        }

        private static long factorial(int n) {
            return n >= 0 && n < FACTORIALS.length ? FACTORIALS[n] : 1;
        }
    }

    /**
     * All tables of the same sums, never one by one: a node is what is left of the columns behind
     * some rows, a link a line of the next row; each table is one way from node 0 to the last.
     */
    private static final class Fiber {
        /** No sums with TOTAL 20 at most give more than 440 nodes, 4,704 links, 448 codes. */
        static final int NODES = 480;
        private static final int LINKS = 4800;
        private static final int CODES = 480;
        private static final int VALUES = TOTAL_LIMIT + 1;
        /** The highest of the six bits of each column: it falls where a column would go below 0. */
        private static final int GUARDS = 1 << 5 | 1 << 11 | 1 << 17 | 1 << 23;

        final Fills fills = new Fills();
        int rows;
        int nodes;
        /** The first node behind so many rows. */
        final int[] levels = new int[SIDE + 2];
        final int[] firstLink = new int[NODES + 1];
        final int[] linkFill = new int[LINKS];
        final int[] linkTo = new int[LINKS];
        /** In how many ways the rows that are left can be, and their weights together. */
        final long[] ahead = new long[NODES];
        final long[] heftAhead = new long[NODES];
        private final long[] behind = new long[NODES];
        private final int[] left = new int[NODES];
        private final int[] code = new int[NODES];
        private final int[] nodeByCode = new int[CODES];
        private final long[] seen = new long[CELLS * VALUES];
        private int links;

        void make(Sheet sheet) {
            rows = sheet.rows;
            nodes = 0;
            links = 0;
            fills.make(sheet);
            addNode(fills.takenBy(sheet.columnSums), fills.codeOf(sheet.columnSums));
            levels[0] = 0;
            for (int y = 0; y < rows && y < SIDE; y++) {
                levels[y + 1] = nodes;
                linkLevel(y);
            }
            for (int node = levels[rows]; node <= nodes; node++) {
                firstLink[node] = links;
            }
            sumAhead();
            sumBehind();
            sumSeenCells();
        }

        private void linkLevel(int y) {
            Arrays.fill(nodeByCode, NONE);
            for (int node = levels[y]; node < levels[y + 1]; node++) {
                firstLink[node] = links;
                for (int fill = fills.start[y]; fill < fills.start[y + 1]; fill++) {
                    link(node, fill);
                }
            }
        }

        private void link(int node, int fill) {
            int rest = (left[node] | GUARDS) - fills.taken[fill];
            int number = code[node] - fills.code[fill];
            if ((rest & GUARDS) != GUARDS || number < 0 || number >= CODES || links >= LINKS) {
                return;
            }
            if (nodeByCode[number] == NONE) {
                nodeByCode[number] = addNode(rest & ~GUARDS, number);
            }
            linkFill[links] = fill;
            linkTo[links] = nodeByCode[number];
            links++;
        }

        private int addNode(int bits, int number) {
            int node = Math.min(nodes, NODES - 1);
            left[node] = bits;
            code[node] = number;
            nodes = node + 1;
            return node;
        }

        private void sumAhead() {
            for (int node = nodes - 1; node >= 0; node--) {
                boolean last = node >= levels[rows];
                ahead[node] = last ? 1 : 0;
                heftAhead[node] = last ? 1 : 0;
                for (int link = firstLink[node]; link < firstLink[node + 1]; link++) {
                    int to = linkTo[link];
                    ahead[node] += ahead[to];
                    heftAhead[node] += fills.parts[0][linkFill[link]] * heftAhead[to];
                }
            }
        }

        private void sumBehind() {
            Arrays.fill(behind, 0);
            behind[0] = 1;
            for (int node = 0; node < nodes; node++) {
                for (int link = firstLink[node]; link < firstLink[node + 1]; link++) {
                    behind[linkTo[link]] += behind[node];
                }
            }
        }

        private void sumSeenCells() {
            Arrays.fill(seen, 0);
            for (int y = 0; y < rows; y++) {
                for (int node = levels[y]; node < levels[y + 1]; node++) {
                    for (int link = firstLink[node]; link < firstLink[node + 1]; link++) {
                        addSeen(y, fills.line[linkFill[link]], behind[node] * ahead[linkTo[link]]);
                    }
                }
            }
        }

        private void addSeen(int y, int line, long times) {
            for (int x = 0; x < SIDE; x++) {
                seen[seenAt(y, x, Grid.inLine(line, x))] += times;
            }
        }

        private static int seenAt(int y, int x, int v) {
            return (SIDE * y + x) * VALUES + v;
        }

        long size() {
            return ahead[0];
        }

        long heft() {
            return heftAhead[0];
        }

        long timesSeen(int y, int x, int v) {
            int at = seenAt(y, x, v);
            return at >= 0 && at < seen.length ? seen[at] : 0;
        }

        long sumSeen(int y, int x) {
            long sum = 0;
            for (int v = 0; v < VALUES; v++) {
                sum += v * timesSeen(y, x, v);
            }
            return sum;
        }

        int lowestOf(int y, int x) {
            int v = 0;
            while (v < TOTAL_LIMIT && timesSeen(y, x, v) == 0) {
                v++;
            }
            return v;
        }

        int highestOf(int y, int x) {
            int v = TOTAL_LIMIT;
            while (v > 0 && timesSeen(y, x, v) == 0) {
                v--;
            }
            return v;
        }

        /** The link of a node by a line; NONE if there is none. */
        int linkBy(int node, int line) {
            for (int link = firstLink[node]; link < firstLink[node + 1]; link++) {
                if (fills.line[linkFill[link]] == line) {
                    return link;
                }
            }
            return NONE;
        }

        long rankOf(long cells) {
            long before = 0;
            int node = 0;
            for (int y = 0; y < rows; y++) {
                int found = linkBy(node, Grid.lineOf(cells, y));
                if (found == NONE) {
                    return NONE;
                }
                for (int link = firstLink[node]; link < found; link++) {
                    before += ahead[linkTo[link]];
                }
                node = linkTo[found];
            }
            return before;
        }

        long cellsOf(long rank) {
            long cells = 0;
            long rest = rank;
            int node = 0;
            for (int y = 0; y < rows; y++) {
                int link = firstLink[node];
                while (link < firstLink[node + 1] - 1 && rest >= ahead[linkTo[link]]) {
                    rest -= ahead[linkTo[link]];
                    link++;
                }
                cells = Grid.withLine(cells, y, fills.line[linkFill[link]]);
                node = linkTo[link];
            }
            return cells;
        }
    }

    /** What share of the fiber lies as far out as a table by one of the statistics. */
    private static final class Measures {
        private final Fiber fiber;
        /** What the rows that are left behind a node can bring at the least, and at the most. */
        private final long[][] low = new long[STATISTICS][Fiber.NODES];
        private final long[][] high = new long[STATISTICS][Fiber.NODES];
        private final boolean[] bounded = new boolean[STATISTICS];
        /** The latest answer by each statistic: it hangs on the table's own value alone. */
        private final boolean[] counted = new boolean[STATISTICS];
        private final long[] value = new long[STATISTICS];
        private final long[] number = new long[STATISTICS];
        private final long[] heft = new long[STATISTICS];

        Measures(Fiber fiber) {
            this.fiber = fiber;
        }

        void forget() {
            for (int which = 0; which < STATISTICS; which++) {
                bounded[which] = false;
                counted[which] = false;
            }
        }

        long valueOf(int which, long cells) {
            long sum = start(which);
            int node = 0;
            for (int y = 0; y < fiber.rows; y++) {
                int link = fiber.linkBy(node, Grid.lineOf(cells, y));
                if (link == NONE) {
                    return ABSENT;
                }
                sum = join(which, sum, fiber.fills.parts[which][fiber.linkFill[link]]);
                node = fiber.linkTo[link];
            }
            return sum;
        }

        long farOut(int which, long cells) {
            gatherAll(which, valueOf(which, cells));
            return number[which];
        }

        long farOutHeft(int which, long cells) {
            gatherAll(which, valueOf(which, cells));
            return heft[which];
        }

        long firstHeaviest() {
            bound(0);
            return firstWith(high[0]);
        }

        long firstLightest() {
            bound(0);
            return firstWith(low[0]);
        }

        /** The first link that keeps to the best leads to the least rank of all that have it. */
        private long firstWith(long[] best) {
            long before = 0;
            int node = 0;
            for (int y = 0; y < fiber.rows; y++) {
                int next = node;
                for (int link = fiber.firstLink[node]; link < fiber.firstLink[node + 1]; link++) {
                    int to = fiber.linkTo[link];
                    long part = fiber.fills.parts[0][fiber.linkFill[link]];
                    if (fiber.ahead[to] > 0 && part * best[to] == best[node]) {
                        next = to;
                        break;
                    }
                    before += fiber.ahead[to];
                }
                node = next;
            }
            return before;
        }

        private static long start(int which) {
            return which == 0 ? 1 : 0;
        }

        private static long join(int which, long a, long b) {
            switch (which) {
                case 0:
                    return a * b;
                case 3:
                    return Math.max(a, b);
                default:
                    return a + b;
            }
        }

        private void bound(int which) {
            if (bounded[which]) {
                return;
            }
            bounded[which] = true;
            for (int node = fiber.nodes - 1; node >= 0; node--) {
                if (node >= fiber.levels[fiber.rows]) {
                    low[which][node] = start(which);
                    high[which][node] = start(which);
                } else {
                    boundNode(which, node);
                }
            }
        }

        private void boundNode(int which, int node) {
            boolean first = true;
            for (int link = fiber.firstLink[node]; link < fiber.firstLink[node + 1]; link++) {
                int to = fiber.linkTo[link];
                if (fiber.ahead[to] > 0) {
                    long part = fiber.fills.parts[which][fiber.linkFill[link]];
                    long lower = join(which, part, low[which][to]);
                    long upper = join(which, part, high[which][to]);
                    low[which][node] = first ? lower : Math.min(low[which][node], lower);
                    high[which][node] = first ? upper : Math.max(high[which][node], upper);
                    first = false;
                }
            }
        }

        private void gatherAll(int which, long limit) {
            if (counted[which] && value[which] == limit) {
                return;
            }
            bound(which);
            counted[which] = true;
            value[which] = limit;
            number[which] = 0;
            heft[which] = 0;
            gather(this, which, 0, 0, start(which), 1);
        }

        /** Whole branches are taken or left by their bounds: few tables are gone through. */
        private static void gather(Measures m, int which, int node, int depth, long sum,
                long weighs) {
            Fiber fiber = m.fiber;
            long limit = m.value[which];
            long lower = join(which, sum, m.low[which][node]);
            long upper = join(which, sum, m.high[which][node]);
            boolean all = which == 0 ? upper <= limit : lower >= limit;
            boolean any = which == 0 ? lower <= limit : upper >= limit;
            if (all) {
                m.number[which] += fiber.ahead[node];
                m.heft[which] += weighs * fiber.heftAhead[node];
            }
            if (all || !any || depth >= fiber.rows) {
                return;
            }
            for (int link = fiber.firstLink[node]; link < fiber.firstLink[node + 1]; link++) {
                int to = fiber.linkTo[link];
                int fill = fiber.linkFill[link];
                if (fiber.ahead[to] > 0) {
                    gather(m, which, to, depth + 1,
                            join(which, sum, fiber.fills.parts[which][fill]),
                            weighs * fiber.fills.parts[0][fill]);
                }
            }
        }
    }

    /** All swaps and turns that no hole forbids, each once: what it adds, what it lessens. */
    private static final class Moves {
        static final int SWAPS = 72;
        private static final int LIMIT = SWAPS + 192;

        int swapEnd;
        int moveEnd;
        /** How many choices of two rows and two columns there are. */
        int choices;
        final long[] step = new long[LIMIT];
        private final int[] lessA = new int[LIMIT];
        private final int[] lessB = new int[LIMIT];
        private final int[] lessC = new int[LIMIT];

        void make(Sheet sheet) {
            moveEnd = 0;
            choices = sheet.rows * (sheet.rows - 1) * sheet.columns * (sheet.columns - 1);
            for (int r = 0; r < sheet.rows; r++) {
                for (int s = r + 1; s < sheet.rows; s++) {
                    addSwaps(sheet, r, s);
                }
            }
            swapEnd = moveEnd;
            // the first row of a turn is its least: its three beginnings are one turn
            for (int r = 0; r < sheet.rows; r++) {
                for (int s = r + 1; s < sheet.rows; s++) {
                    for (int t = r + 1; t < sheet.rows; t++) {
                        addTurns(sheet, r, s, t);
                    }
                }
            }
        }

        private void addSwaps(Sheet sheet, int r, int s) {
            for (int c = 0; c < sheet.columns; c++) {
                for (int d = 0; d < sheet.columns; d++) {
                    boolean free = !sheet.isHole(r, c) && !sheet.isHole(r, d)
                            && !sheet.isHole(s, c) && !sheet.isHole(s, d);
                    if (c != d && free) {
                        int less = Grid.shift(s, c);
                        add(Grid.swapStep(r, s, c, d), Grid.shift(r, d), less, less);
                    }
                }
            }
        }

        private void addTurns(Sheet sheet, int r, int s, int t) {
            for (int c = 0; c < sheet.columns && s != t; c++) {
                for (int d = 0; d < sheet.columns; d++) {
                    for (int e = 0; e < sheet.columns; e++) {
                        boolean free = !sheet.isHole(r, c) && !sheet.isHole(r, d)
                                && !sheet.isHole(s, d) && !sheet.isHole(s, e)
                                && !sheet.isHole(t, e) && !sheet.isHole(t, c);
                        if (c != d && d != e && e != c && free) {
                            long more = Grid.one(r, c) + Grid.one(s, d) + Grid.one(t, e);
                            long less = Grid.one(r, d) + Grid.one(s, e) + Grid.one(t, c);
                            add(more - less, Grid.shift(r, d), Grid.shift(s, e), Grid.shift(t, c));
                        }
                    }
                }
            }
        }

        private void add(long by, int a, int b, int c) {
            if (moveEnd < 0 || moveEnd >= LIMIT) {
                return;
            }
            step[moveEnd] = by;
            lessA[moveEnd] = a;
            lessB[moveEnd] = b;
            lessC[moveEnd] = c;
            moveEnd++;
        }

        boolean can(long cells, int move) {
            return Grid.get(cells, lessA[move]) > 0 && Grid.get(cells, lessB[move]) > 0
                    && Grid.get(cells, lessC[move]) > 0;
        }

        int swapsOn(long cells) {
            int found = 0;
            for (int move = 0; move < swapEnd; move++) {
                if (can(cells, move)) {
                    found++;
                }
            }
            return found;
        }
    }

    /** A listed fiber as a net: its tables by rank, and which are one swap apart. */
    private static final class Net {
        private static final int FIRST_ROOM = 256;
        private static final int MOST_NEARS = LISTED * Moves.SWAPS;
        private static final long TOP_BIT = 1L << 63;

        private final Fiber fiber;
        private final Moves moves;
        private boolean prepared;
        private int size;
        private final long[] list = new long[LISTED];
        private final int[] firstNear = new int[LISTED + 1];
        /** Grown by doubling and kept: most fibers are small, and all tables share one room. */
        private int[] near = new int[FIRST_ROOM];
        private int nears;
        private final int[] head = new int[LISTED];
        private final int[] members = new int[LISTED];
        private int heads;
        private int joinedHeads;
        private final int[] distances = new int[LISTED];
        private int source;
        private final int[] queue = new int[LISTED];
        private int queued;
        private long[] rowsNow = new long[LISTED];
        private long[] rowsNext = new long[LISTED];

        Net(Fiber fiber, Moves moves) {
            this.fiber = fiber;
            this.moves = moves;
        }

        void forget() {
            prepared = false;
        }

        void prepare() {
            if (prepared) {
                return;
            }
            prepared = true;
            source = NONE;
            joinedHeads = NONE;
            size = (int) Math.min(LISTED, fiber.size());
            for (int i = 0; i < size; i++) {
                list[i] = fiber.cellsOf(i);
            }
            nears = 0;
            for (int i = 0; i < size; i++) {
                firstNear[i] = nears;
                linkSwaps(i);
            }
            firstNear[size] = nears;
            splitIntoClasses();
        }

        private void linkSwaps(int at) {
            for (int move = 0; move < moves.swapEnd; move++) {
                if (moves.can(list[at], move) && nears < MOST_NEARS) {
                    if (nears >= near.length) {
                        near = Arrays.copyOf(near, Math.min(MOST_NEARS, 2 * near.length));
                    }
                    near[nears] = find(list[at] + moves.step[move]);
                    nears++;
                }
            }
        }

        /** The list is in order by its longs without sign: the first cell may reach the top bit. */
        private int find(long cells) {
            int at = 0;
            for (int leap = 512; leap > 0; leap >>= 1) {
                if (at + leap < size && (list[at + leap] ^ TOP_BIT) <= (cells ^ TOP_BIT)) {
                    at += leap;
                }
            }
            return at;
        }

        private void splitIntoClasses() {
            Arrays.fill(head, NONE);
            heads = 0;
            for (int i = 0; i < size; i++) {
                if (head[i] == NONE) {
                    heads++;
                    spread(head, i, i, 0);
                    members[i] = queued;
                }
            }
        }

        /** Marks all that swaps lead to from a table: it with a mark, each step with more of it. */
        private void spread(int[] marks, int from, int mark, int more) {
            queued = 0;
            reach(marks, from, mark);
            for (int i = 0; i < queued && i < size; i++) {
                int at = queue[i];
                for (int k = firstNear[at]; k < firstNear[at + 1]; k++) {
                    reach(marks, near[k], marks[at] + more);
                }
            }
        }

        private void reach(int[] marks, int at, int mark) {
            if (marks[at] == NONE && queued < LISTED) {
                marks[at] = mark;
                queue[queued] = at;
                queued++;
            }
        }

        private void measureFrom(int from) {
            if (source != from) {
                Arrays.fill(distances, NONE);
                spread(distances, from, 0, 1);
                source = from;
            }
        }

        int classTotal() {
            return heads;
        }

        int headOf(int at) {
            return at >= 0 && at < size ? head[at] : ABSENT;
        }

        int classSize(int at) {
            int first = headOf(at);
            return first >= 0 && first < size ? members[first] : ABSENT;
        }

        int joinedTotal() {
            if (joinedHeads == NONE) {
                joinedHeads = heads > 1 ? countJoined() : heads;
            }
            return joinedHeads;
        }

        /** The distances serve as marks here, so none of them holds behind it. */
        private int countJoined() {
            source = NONE;
            Arrays.fill(distances, NONE);
            int found = 0;
            for (int i = 0; i < size; i++) {
                if (distances[i] == NONE) {
                    found++;
                    spreadByAll(i);
                }
            }
            return found;
        }

        private void spreadByAll(int from) {
            queued = 0;
            reach(distances, from, 0);
            for (int i = 0; i < queued && i < size; i++) {
                int at = queue[i];
                for (int move = 0; move < moves.moveEnd; move++) {
                    if (moves.can(list[at], move)) {
                        reach(distances, find(list[at] + moves.step[move]), 0);
                    }
                }
            }
        }

        int distance(int from, int to) {
            if (from < 0 || from >= size || to < 0 || to >= size) {
                return ABSENT;
            }
            if (source == to) {
                return distances[from];
            }
            measureFrom(from);
            return distances[to];
        }

        int greatestDistance(int from) {
            int at = firstAtGreatest(from);
            return at >= 0 && at < size ? distances[at] : ABSENT;
        }

        int firstAtGreatest(int from) {
            if (from < 0 || from >= size) {
                return ABSENT;
            }
            measureFrom(from);
            int best = from;
            for (int i = 0; i < size; i++) {
                if (distances[i] > distances[best]) {
                    best = i;
                }
            }
            return best;
        }

        int reached(int from, int n) {
            if (from < 0 || from >= size) {
                return ABSENT;
            }
            measureFrom(from);
            int found = 0;
            for (int i = 0; i < size; i++) {
                if (distances[i] != NONE && distances[i] <= n) {
                    found++;
                }
            }
            return found;
        }

        /** Each swap is two choices (its rows and columns either way round); all others stay. */
        long choiceRows(int from, int n, int to) {
            if (from < 0 || from >= size || to < 0 || to >= size) {
                return ABSENT;
            }
            Arrays.fill(rowsNow, 0);
            rowsNow[from] = 1;
            for (int step = 0; step < n; step++) {
                for (int at = 0; at < size; at++) {
                    int degree = firstNear[at + 1] - firstNear[at];
                    long sum = rowsNow[at] * (moves.choices - 2 * degree);
                    for (int k = firstNear[at]; k < firstNear[at + 1]; k++) {
                        sum += 2 * rowsNow[near[k]];
                    }
                    rowsNext[at] = sum;
                }
                long[] spare = rowsNow;
                rowsNow = rowsNext;
                rowsNext = spare;
            }
            return rowsNow[to];
        }
    }
}
