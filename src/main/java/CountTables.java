import java.util.Arrays;

/**
 * Tables of counts with told sums of rows and columns. ../shared/DOC.md says what each call
 * answers; this file says only why it is done the way it is.
 */
public final class CountTables {
    public static final int NONE = -1;

    private static final int ABSENT = -2;
    private static final int UNLISTED = -3;
    private static final int FAULTY = -4;
    private static final int REFUSED = -5;

    private static final int SIDE = 4;
    private static final int CELLS = SIDE * SIDE;
    private static final int TOTAL_LIMIT = 20;
    private static final int STATISTICS = 4;
    private static final int LISTED = 1000;
    private static final int REACH = 40;
    private static final int MOST_CHOICES = 4;
    private static final int WALK_LIMIT = 1000;
    private static final int SEED_LIMIT = 2000000000;
    private static final int WORDS = 1 << 30;

    private final Tape tape;
    private final Reader reader;
    private final Sheet sheet;
    private final Dice dice;
    private final Moves moves;
    private final Fiber fiber;
    private final Measures measures;
    private final Net net;

    public CountTables() {
        tape = new Tape();
        reader = new Reader();
        sheet = new Sheet();
        dice = new Dice();
        moves = new Moves();
        fiber = new Fiber();
        measures = new Measures(fiber);
        net = new Net(fiber, moves);
    }

    public int feed(int a, int b, int c, int d, int e) {
        if (!tape.hasRoom()) {
            return NONE;
        }
        tape.put(a);
        tape.put(b);
        tape.put(c);
        tape.put(d);
        tape.put(e);
        return tape.length;
    }

    public int end(int n) {
        if (n < 0 || n > tape.length) {
            return NONE;
        }
        tape.length = n;
        return n;
    }

    public int table() {
        boolean sound = reader.read(tape);
        tape.length = 0;
        if (!sound) {
            return FAULTY;
        }
        sheet.take(reader);
        if (sheet.isTold()) {
            moves.make(sheet);
            fiber.make(sheet);
        }
        measures.forget();
        net.forget();
        return sheet.lines;
    }

    public int fault(int what) {
        switch (what) {
            case 0:
                return reader.fault;
            case 1:
                return reader.place;
            default:
                return NONE;
        }
    }

    public int count(int what) {
        switch (what) {
            case 0:
                return sheet.rows;
            case 1:
                return sheet.columns;
            case 2:
                return sheet.total;
            case 3:
                return Integer.bitCount(sheet.holes);
            case 4:
                return sheet.acts;
            case 5:
                return sheet.lines;
            case 6:
                return tape.length;
            default:
                return NONE;
        }
    }

    public int cell(int row, int column) {
        return sheet.has(row, column) ? sheet.at(row, column) : ABSENT;
    }

    public int hole(int row, int column) {
        if (!sheet.has(row, column)) {
            return ABSENT;
        }
        return sheet.isHole(row, column) ? 1 : 0;
    }

    public int row(int row) {
        return sheet.has(row, 0) ? sheet.rowSum(row) : ABSENT;
    }

    public int column(int column) {
        return sheet.has(0, column) ? sheet.columnSum(column) : ABSENT;
    }

    public long tables() {
        return sheet.isTold() ? fiber.size() : ABSENT;
    }

    public long rank() {
        return sheet.isTold() ? fiber.rankOf(sheet.now) : ABSENT;
    }

    public int of(long rank, int row, int column) {
        if (!sheet.has(row, column) || rank < 0 || rank >= fiber.size()) {
            return ABSENT;
        }
        return Grid.get(fiber.cellsOf(rank), Grid.shift(row, column));
    }

    public int least(int row, int column) {
        return sheet.has(row, column) ? fiber.lowestOf(row, column) : ABSENT;
    }

    public int most(int row, int column) {
        return sheet.has(row, column) ? fiber.highestOf(row, column) : ABSENT;
    }

    public int fixed() {
        if (!sheet.isTold()) {
            return ABSENT;
        }
        int bits = 0;
        for (int y = 0; y < sheet.rows; y++) {
            for (int x = 0; x < sheet.columns; x++) {
                if (!sheet.isHole(y, x) && fiber.lowestOf(y, x) == fiber.highestOf(y, x)) {
                    bits |= 1 << (y * sheet.columns + x);
                }
            }
        }
        return bits;
    }

    public long having(int row, int column, int v) {
        if (!sheet.has(row, column) || v < 0 || v > TOTAL_LIMIT) {
            return ABSENT;
        }
        return fiber.timesSeen(row, column, v);
    }

    public long mean(int row, int column, int what) {
        if (!sheet.has(row, column)) {
            return ABSENT;
        }
        return Basics.lowest(fiber.sumSeen(row, column), fiber.size(), what);
    }

    public long weight() {
        return sheet.isTold() ? measures.valueOf(0, sheet.now) : ABSENT;
    }

    public long weights() {
        return sheet.isTold() ? fiber.heft() : ABSENT;
    }

    public long heaviest() {
        return sheet.isTold() ? measures.firstHeaviest() : ABSENT;
    }

    public long lightest() {
        return sheet.isTold() ? measures.firstLightest() : ABSENT;
    }

    public long statistic(int which) {
        return hasStatistic(which) ? measures.valueOf(which, sheet.now) : ABSENT;
    }

    public long extreme(int which) {
        return hasStatistic(which) ? measures.farOut(which, sheet.now) : ABSENT;
    }

    public long share(int which, int what) {
        if (!hasStatistic(which)) {
            return ABSENT;
        }
        return Basics.lowest(measures.farOutHeft(which, sheet.now), fiber.heft(), what);
    }

    public long chi() {
        return sheet.isTold() ? Basics.bitsOfDouble(sheet.chiSum()) : ABSENT;
    }

    public int excess(int row, int column) {
        return sheet.has(row, column) ? Basics.bitsOfFloat(sheet.over(row, column)) : ABSENT;
    }

    public int swaps() {
        return sheet.isTold() ? moves.swapsOn(sheet.now) : ABSENT;
    }

    public int classes() {
        int refusal = refusalOfList();
        return refusal != 0 ? refusal : net.classTotal();
    }

    public int joined() {
        int refusal = refusalOfList();
        return refusal != 0 ? refusal : net.joinedTotal();
    }

    public int classOf(int rank) {
        int refusal = refusalOfRank(rank);
        return refusal != 0 ? refusal : net.headOf(rank);
    }

    public int sized(int rank) {
        int refusal = refusalOfRank(rank);
        return refusal != 0 ? refusal : net.classSize(rank);
    }

    public int apart(int rank, int other) {
        int refusal = refusalOfRank(rank);
        if (refusal == 0) {
            refusal = refusalOfRank(other);
        }
        return refusal != 0 ? refusal : net.distance(rank, other);
    }

    public int far() {
        int refusal = refusalOfList();
        return refusal != 0 ? refusal : net.greatestDistance(rankNow());
    }

    public int farthest() {
        int refusal = refusalOfList();
        return refusal != 0 ? refusal : net.firstAtGreatest(rankNow());
    }

    public int within(int n) {
        if (n < 0 || n > REACH) {
            return ABSENT;
        }
        int refusal = refusalOfList();
        return refusal != 0 ? refusal : net.reached(rankNow(), n);
    }

    public long ways(int n, int rank) {
        if (n < 0 || n > MOST_CHOICES) {
            return ABSENT;
        }
        int refusal = refusalOfRank(rank);
        return refusal != 0 ? refusal : net.choiceRows(rankNow(), n, rank);
    }

    public long drawn(int word) {
        if (!sheet.isTold() || word < 0 || word >= WORDS) {
            return ABSENT;
        }
        long all = fiber.size();
        if (all <= 0 || word >= evenWords() * all) {
            return NONE;
        }
        return word % all;
    }

    public int evenly() {
        return sheet.isTold() ? (int) evenWords() : ABSENT;
    }

    public int swap(int r, int s, int c, int d) {
        if (!sheet.has(r, c) || !sheet.has(s, d) || r == s || c == d) {
            return ABSENT;
        }
        if (sheet.isFull() || !sheet.canSwap(r, s, c, d)) {
            return REFUSED;
        }
        sheet.remember();
        sheet.doSwap(r, s, c, d);
        return 0;
    }

    public int walk(int n, int seed) {
        if (!sheet.isTold() || n < 1 || n > WALK_LIMIT || seed < 0 || seed > SEED_LIMIT) {
            return ABSENT;
        }
        if (sheet.isFull()) {
            return REFUSED;
        }
        sheet.remember();
        dice.start(seed);
        int done = 0;
        for (int i = 0; i < n; i++) {
            if (sheet.choose(dice)) {
                done++;
            }
        }
        return done;
    }

    public int undo() {
        if (!sheet.isTold()) {
            return ABSENT;
        }
        if (sheet.acts == 0) {
            return REFUSED;
        }
        sheet.goBackTo(sheet.acts - 1);
        return sheet.acts;
    }

    public int anew() {
        if (!sheet.isTold()) {
            return ABSENT;
        }
        int taken = sheet.acts;
        sheet.goBackTo(0);
        return taken;
    }

    private boolean hasStatistic(int which) {
        return sheet.isTold() && which >= 0 && which < STATISTICS;
    }

    private long evenWords() {
        return Basics.quotient(WORDS, fiber.size());
    }

    private int rankNow() {
        return (int) fiber.rankOf(sheet.now);
    }

    private int refusalOfList() {
        if (!sheet.isTold()) {
            return ABSENT;
        }
        if (fiber.size() > LISTED) {
            return UNLISTED;
        }
        net.prepare();
        return 0;
    }

    private int refusalOfRank(int rank) {
        int refusal = refusalOfList();
        if (refusal != 0) {
            return refusal;
        }
        return rank < 0 || rank >= fiber.size() ? ABSENT : 0;
    }

    /** The bytes that have been fed and not yet been read. */
    private static final class Tape {
        private static final int LIMIT = 300;
        private static final int FED = 20;

        final int[] bytes = new int[LIMIT];
        int length;

        boolean hasRoom() {
            return length + FED <= LIMIT;
        }

        void put(int word) {
            for (int shift = 24; shift >= 0; shift -= 8) {
                if (length >= 0 && length < LIMIT) {
                    bytes[length] = (word >>> shift) & 255;
                    length++;
                }
            }
        }

        /** Behind the end stands a byte that no token has: a reader may look one further. */
        int byteAt(int place) {
            return place >= 0 && place < length && place < LIMIT ? bytes[place] : 0;
        }
    }

    /** Reads a text token by token; the first fault that it meets is the first by its place. */
    private static final class Reader {
        private static final int END = 0;
        private static final int WORD = 1;
        private static final int NUMBER = 2;
        private static final int SIGN = 3;
        private static final int STRANGE = 4;

        private static final int MISPLACED = 1;
        private static final int OUT_OF_BOUNDS = 2;

        private static final int FEWEST_LINES = 2;
        private static final int MOST_IN_CELL = 9;
        private static final int HUGE = 1000;

        int fault;
        int place = NONE;
        int rows;
        int columns;
        int lines;
        int holes;
        private final int[] cells = new int[CELLS];
        private int total;
        private int kind;
        private int from;
        private int to;
        private int value;

        boolean read(Tape tape) {
            fault = 0;
            place = NONE;
            rows = 0;
            columns = 0;
            lines = 0;
            holes = 0;
            total = 0;
            to = 0;
            Arrays.fill(cells, 0);
            advance(tape);
            if (kind == END) {
                return true;
            }
            if (!readSizes(tape)) {
                return false;
            }
            for (int y = 0; y < rows; y++) {
                if (!readCounts(tape, y)) {
                    return false;
                }
            }
            // every cell can be a hole once only, so that a sound text has no more lines than that
            for (int i = 0; i <= CELLS && kind != END; i++) {
                if (!readHole(tape)) {
                    return false;
                }
            }
            return true;
        }

        int countAt(int y, int x) {
            return Basics.get(cells, SIDE * y + x);
        }

        private boolean readSizes(Tape tape) {
            if (!passWord(tape, "table") || !passWord(tape, "rows")
                    || !isNumber(FEWEST_LINES, SIDE)) {
                return false;
            }
            int high = value;
            advance(tape);
            if (!passWord(tape, "columns") || !isNumber(FEWEST_LINES, SIDE)) {
                return false;
            }
            int wide = value;
            advance(tape);
            if (!passSign(tape)) {
                return false;
            }
            rows = high;
            columns = wide;
            return true;
        }

        private boolean readCounts(Tape tape, int y) {
            if (!passWord(tape, "row")) {
                return false;
            }
            for (int x = 0; x < columns; x++) {
                if (!isNumber(0, MOST_IN_CELL)) {
                    return false;
                }
                if (total + value > TOTAL_LIMIT) {
                    return fail(OUT_OF_BOUNDS);
                }
                total += value;
                Basics.put(cells, SIDE * y + x, value);
                advance(tape);
            }
            return passSign(tape);
        }

        private boolean readHole(Tape tape) {
            if (!passWord(tape, "hole") || !isNumber(0, rows - 1)) {
                return false;
            }
            int y = value;
            advance(tape);
            if (!isNumber(0, columns - 1)) {
                return false;
            }
            int index = SIDE * y + value;
            if ((holes >> index & 1) != 0 || Basics.get(cells, index) != 0) {
                return fail(OUT_OF_BOUNDS);
            }
            holes |= 1 << index;
            advance(tape);
            return passSign(tape);
        }

        private boolean passWord(Tape tape, String word) {
            if (kind != WORD || !isWord(tape, word)) {
                return fail(MISPLACED);
            }
            advance(tape);
            return true;
        }

        private boolean passSign(Tape tape) {
            if (kind != SIGN) {
                return fail(MISPLACED);
            }
            lines++;
            advance(tape);
            return true;
        }

        private boolean isNumber(int low, int high) {
            if (kind != NUMBER) {
                return fail(MISPLACED);
            }
            return value >= low && value <= high || fail(OUT_OF_BOUNDS);
        }

        private boolean isWord(Tape tape, String word) {
            if (to - from != word.length()) {
                return false;
            }
            for (int i = 0; i < word.length(); i++) {
                if (tape.byteAt(from + i) != word.charAt(i)) {
                    return false;
                }
            }
            return true;
        }

        private boolean fail(int which) {
            fault = which;
            place = from;
            return false;
        }

        private void advance(Tape tape) {
            from = to;
            while (from < tape.length && isBlank(tape.byteAt(from))) {
                from++;
            }
            to = from;
            kind = kindOf(tape, from);
            if (kind == WORD || kind == NUMBER) {
                while (to < tape.length && kindOf(tape, to) == kind) {
                    to++;
                }
                value = kind == NUMBER ? numberIn(tape) : 0;
            } else if (kind != END) {
                to++;
            }
        }

        /** A number of many digits stays huge: it must not wrap round into its bounds. */
        private int numberIn(Tape tape) {
            int number = 0;
            for (int at = from; at < to; at++) {
                number = Math.min(HUGE, 10 * number + tape.byteAt(at) - '0');
            }
            return number;
        }

        private static boolean isBlank(int sign) {
            return sign == ' ' || sign == '\n';
        }

        private static int kindOf(Tape tape, int at) {
            if (at >= tape.length) {
                return END;
            }
            int sign = tape.byteAt(at);
            if (sign >= 'a' && sign <= 'z') {
                return WORD;
            }
            if (sign >= '0' && sign <= '9') {
                return NUMBER;
            }
            return sign == ';' ? SIGN : STRANGE;
        }
    }

    /**
     * All cells of a table in one long, four bits each, the first cell in the highest: so a swap
     * is one addition. Four bits do, since r + c is at most TOTAL and the told cell (9 at most)
     * for the sums r, c of any cell, and no cell of the fiber is above the lesser of them: 14.
     */
    private static final class Grid {
        private static final int WIDTH = 4;

        private Grid() {
        }

        static int shift(int y, int x) {
            return WIDTH * (CELLS - 1 - SIDE * y - x);
        }

        static int get(long cells, int shift) {
            return (int) (cells >>> shift) & 15;
        }

        static long one(int y, int x) {
            return 1L << shift(y, x);
        }

        static long swapStep(int r, int s, int c, int d) {
            return one(r, c) + one(s, d) - one(r, d) - one(s, c);
        }

        /** A line is the four cells of one row, as the low 16 bits. */
        static int lineOf(long cells, int y) {
            return (int) (cells >>> shift(y, SIDE - 1)) & 65535;
        }

        static long withLine(long cells, int y, int line) {
            return cells | (long) line << shift(y, SIDE - 1);
        }

        static int inLine(int line, int x) {
            return line >> WIDTH * (SIDE - 1 - x) & 15;
        }

        static int putInLine(int line, int x, int v) {
            return line | v << WIDTH * (SIDE - 1 - x);
        }
    }

    /**
     * What the library of this program does not have: rows whose index is looked at first (outside
     * a row all is 0, and nothing can be put there), a division that never throws, bits.
     */
    private static final class Basics {
        private static final int EUCLID_STEPS = 200;
        private static final int MOST_EXPONENT = 1100;

        private Basics() {
        }

        static int get(int[] row, int at) {
            return at >= 0 && at < row.length ? row[at] : 0;
        }

        static long get(long[] row, int at) {
            return at >= 0 && at < row.length ? row[at] : 0;
        }

        static boolean get(boolean[] row, int at) {
            return at >= 0 && at < row.length && row[at];
        }

        static void put(int[] row, int at, int v) {
            if (at >= 0 && at < row.length) {
                row[at] = v;
            }
        }

        static void put(long[] row, int at, long v) {
            if (at >= 0 && at < row.length) {
                row[at] = v;
            }
        }

        static void put(boolean[] row, int at, boolean v) {
            if (at >= 0 && at < row.length) {
                row[at] = v;
            }
        }

        static int cut(int v, int top) {
            return v < 0 ? 0 : v > top ? top : v;
        }

        static long quotient(long above, long below) {
            return below == 0 ? 0 : above / below;
        }

        /** One side of a fraction in lowest terms: what 0 above, 1 below. */
        static long lowest(long above, long below, int what) {
            if (what != 0 && what != 1) {
                return ABSENT;
            }
            return quotient(what == 0 ? above : below, divisor(above, below));
        }

        private static long divisor(long a, long b) {
            long big = a;
            long small = b;
            for (int i = 0; i < EUCLID_STEPS && small != 0; i++) {
                long rest = big % small;
                big = small;
                small = rest;
            }
            return big;
        }

        /** For numbers that are not below 0: halving and doubling are exact, so no bit is lost. */
        static long bitsOfDouble(double number) {
            if (!(number > 0)) {
                return 0;
            }
            double part = number;
            long exponent = 1023;
            for (int i = 0; i < MOST_EXPONENT && part >= 2; i++) {
                part = part / 2;
                exponent++;
            }
            for (int i = 0; i < MOST_EXPONENT && part < 1; i++) {
                part = part * 2;
                exponent--;
            }
            return exponent << 52 | (long) ((part - 1) * (double) (1L << 52));
        }

        /** A double holds any float as it is, with 896 more in its exponent. */
        static int bitsOfFloat(float number) {
            long wide = bitsOfDouble((double) (number < 0 ? -number : number));
            if (wide == 0) {
                return 0;
            }
            int bits = (int) ((wide >>> 29) - (896L << 23));
            return number < 0 ? bits | 1 << 31 : bits;
        }
    }

    /** The draws of a walk. */
    private static final class Dice {
        private long x;

        void start(int seed) {
            x = seed;
        }

        int draw(int m) {
            x = (1103515245L * x + 12345) & 0x7fffffffL;
            return m <= 0 ? 0 : (int) (x / 65536 % m);
        }

        int drawOther(int m, int not) {
            int other = draw(m - 1);
            return other < not ? other : other + 1;
        }
    }

    /** The table as it was told, and as the acts have left it. */
    private static final class Sheet {
        private static final int MOST_ACTS = 20;

        int rows;
        int columns;
        int lines;
        int total;
        int holes;
        long now;
        int acts;
        private final int[] rowSums = new int[SIDE];
        private final int[] columnSums = new int[SIDE];
        private final long[] past = new long[MOST_ACTS];

        void take(Reader reader) {
            rows = reader.rows;
            columns = reader.columns;
            lines = reader.lines;
            holes = reader.holes;
            total = 0;
            now = 0;
            acts = 0;
            Arrays.fill(rowSums, 0);
            Arrays.fill(columnSums, 0);
            for (int y = 0; y < SIDE; y++) {
                for (int x = 0; x < SIDE; x++) {
                    int v = reader.countAt(y, x);
                    total += v;
                    rowSums[y] += v;
                    columnSums[x] += v;
                    now |= (long) v << Grid.shift(y, x);
                }
            }
        }

        boolean isTold() {
            return rows > 0;
        }

        boolean has(int y, int x) {
            return y >= 0 && y < rows && x >= 0 && x < columns;
        }

        int at(int y, int x) {
            return Grid.get(now, Grid.shift(y, x));
        }

        boolean isHole(int y, int x) {
            return (holes >> SIDE * y + x & 1) != 0;
        }

        int rowSum(int y) {
            return Basics.get(rowSums, y);
        }

        int columnSum(int x) {
            return Basics.get(columnSums, x);
        }

        boolean isFull() {
            return acts >= MOST_ACTS;
        }

        void remember() {
            if (acts >= 0 && acts < MOST_ACTS) {
                past[acts] = now;
                acts++;
            }
        }

        void goBackTo(int act) {
            if (act >= 0 && act < acts && act < MOST_ACTS) {
                now = past[act];
                acts = act;
            }
        }

        boolean canSwap(int r, int s, int c, int d) {
            return at(r, d) > 0 && at(s, c) > 0 && !isHole(r, c) && !isHole(s, d);
        }

        void doSwap(int r, int s, int c, int d) {
            now += Grid.swapStep(r, s, c, d);
        }

        boolean choose(Dice dice) {
            int r = dice.draw(rows);
            int s = dice.drawOther(rows, r);
            int c = dice.draw(columns);
            int d = dice.drawOther(columns, c);
            boolean can = canSwap(r, s, c, d);
            if (can) {
                doSwap(r, s, c, d);
            }
            return can;
        }

        private int product(int y, int x) {
            return rowSum(y) * columnSum(x);
        }

        float over(int y, int x) {
            float bySums = total <= 0 ? 0 : (float) product(y, x) / (float) total;
            return (float) at(y, x) - bySums;
        }

        double chiSum() {
            double sum = 0;
            for (int y = 0; y < rows; y++) {
                for (int x = 0; x < columns; x++) {
                    double bySums = total <= 0 ? 0 : (double) product(y, x) / (double) total;
                    if (bySums > 0) {
                        double off = (double) at(y, x) - bySums;
                        sum = sum + off * off / bySums;
                    }
                }
            }
            return sum;
        }
    }

    /**
     * Every line that a row can be by its sum, its holes and the sums of the columns, the rows one
     * behind the other, in order within each; and what each line adds to the four statistics.
     */
    private static final class Fills {
        /** No sums with TOTAL 20 at most give more than 294 in all rows. */
        private static final int LIMIT = 320;
        private static final int BITS = 6;
        private static final long[] FACTORIALS = {
            1L, 1L, 2L, 6L, 24L, 120L, 720L, 5040L, 40320L, 362880L, 3628800L, 39916800L,
            479001600L, 6227020800L, 87178291200L, 1307674368000L, 20922789888000L,
            355687428096000L, 6402373705728000L, 121645100408832000L, 2432902008176640000L,
        };

        private final int[] start = new int[SIDE + 1];
        final int[] line = new int[LIMIT];
        /** What the line takes from the columns, six bits each. */
        final int[] taken = new int[LIMIT];
        /** The same as one number among all that the columns allow. */
        final int[] code = new int[LIMIT];
        /** LIMIT by each statistic, one behind the other. */
        final long[] parts = new long[STATISTICS * LIMIT];
        private final int[] strides = new int[SIDE];
        private long scale;
        private int size;

        void make(Sheet sheet) {
            setStrides(sheet);
            setScale(sheet);
            size = 0;
            for (int y = 0; y < sheet.rows && y < SIDE; y++) {
                start[y] = size;
                lay(this, sheet, y, 0, sheet.rowSum(y), 0);
                start[y + 1] = size;
            }
        }

        /** The lines of a row are those from its first to the first of the row behind it. */
        int firstOf(int y) {
            return Basics.cut(Basics.get(start, y), LIMIT);
        }

        long partOf(int which, int fill) {
            int at = which * LIMIT + fill;
            return at >= 0 && at < parts.length ? parts[at] : 0;
        }

        /** What all lines together take: the columns' own sums. */
        int takenByAll(Sheet sheet) {
            int bits = 0;
            for (int x = 0; x < SIDE; x++) {
                bits |= sheet.columnSum(x) << BITS * x;
            }
            return bits;
        }

        int codeOfAll(Sheet sheet) {
            int number = 0;
            for (int x = 0; x < SIDE; x++) {
                number += sheet.columnSum(x) * strides[x];
            }
            return number;
        }

        /** The last column has no stride: what is left of it follows from the others. */
        private void setStrides(Sheet sheet) {
            Arrays.fill(strides, 0);
            int stride = 1;
            for (int x = 0; x < sheet.columns - 1 && x < SIDE; x++) {
                strides[x] = stride;
                stride *= sheet.columnSum(x) + 1;
            }
        }

        private void setScale(Sheet sheet) {
            scale = 1;
            for (int i = 0; i < SIDE; i++) {
                scale *= Math.max(1, sheet.rowSum(i));
                scale *= Math.max(1, sheet.columnSum(i));
            }
        }

        private static void lay(Fills fills, Sheet sheet, int y, int x, int left, int cells) {
            if (x < 0 || x >= sheet.columns || x >= SIDE) {
                fills.keep(sheet, y, cells);
                return;
            }
            int top = sheet.isHole(y, x) ? 0 : Math.min(left, sheet.columnSum(x));
            int v = x == sheet.columns - 1 ? left : 0;
            for (; v <= top; v++) {
                lay(fills, sheet, y, x + 1, left - v, Grid.putInLine(cells, x, v));
            }
        }

        private void keep(Sheet sheet, int y, int cells) {
            int sum = sheet.rowSum(y);
            int takes = 0;
            int number = 0;
            long laid = factorial(sum);
            long squares = 0;
            long products = 0;
            long top = 0;
            for (int x = 0; x < SIDE; x++) {
                int v = Grid.inLine(cells, x);
                long sums = (long) sum * sheet.columnSum(x);
                takes |= v << BITS * x;
                number += v * strides[x];
                laid = Basics.quotient(laid, factorial(v));
                squares += v * v * Basics.quotient(scale, sums);
                products += v * (y + 1) * (x + 1);
                top = Math.max(top, v);
            }
            Basics.put(line, size, cells);
            Basics.put(taken, size, takes);
            Basics.put(code, size, number);
            putParts(laid, squares, products, top);
            size = Math.min(LIMIT, size + 1);
        }

        private void putParts(long laid, long squares, long products, long top) {
            if (size >= 0 && size < LIMIT) {
                parts[size] = laid;
                parts[LIMIT + size] = squares;
                parts[2 * LIMIT + size] = products;
                parts[3 * LIMIT + size] = top;
            }
        }

        private static long factorial(int n) {
            return n >= 0 && n < FACTORIALS.length ? FACTORIALS[n] : 1;
        }
    }

    /**
     * All tables of the same sums, never one by one: a node is what is left of the columns behind
     * some rows, a link a line of the next row; each table is one way from node 0 to the last.
     */
    private static final class Fiber {
        /** No sums with TOTAL 20 at most give more than 440 nodes, 4,704 links, 448 codes. */
        static final int NODES = 480;
        private static final int LINKS = 4800;
        private static final int CODES = 480;
        private static final int VALUES = TOTAL_LIMIT + 1;
        /** The highest of the six bits of each column: it falls where a column would go below 0. */
        private static final int GUARDS = 1 << 5 | 1 << 11 | 1 << 17 | 1 << 23;

        final Fills fills = new Fills();
        int rows;
        int nodes;
        /** The first node behind so many rows. */
        private final int[] levels = new int[SIDE + 1];
        private final int[] firstLink = new int[NODES + 1];
        final int[] linkFill = new int[LINKS];
        final int[] linkTo = new int[LINKS];
        /** In how many ways the rows that are left can be, and their weights together. */
        final long[] ahead = new long[NODES];
        final long[] heftAhead = new long[NODES];
        private final long[] behind = new long[NODES];
        private final int[] left = new int[NODES];
        private final int[] code = new int[NODES];
        private final int[] nodeByCode = new int[CODES];
        private final long[] seen = new long[CELLS * VALUES];
        private int links;

        void make(Sheet sheet) {
            rows = sheet.rows;
            nodes = 0;
            links = 0;
            fills.make(sheet);
            addNode(fills.takenByAll(sheet), fills.codeOfAll(sheet));
            levels[0] = 0;
            for (int y = 0; y < rows && y < SIDE; y++) {
                levels[y + 1] = nodes;
                linkLevel(y);
            }
            for (int node = firstNode(rows); node <= nodes && node <= NODES; node++) {
                Basics.put(firstLink, node, links);
            }
            sumAhead();
            sumBehind();
            sumSeenCells();
        }

        private void linkLevel(int y) {
            Arrays.fill(nodeByCode, NONE);
            int end = firstNode(y + 1);
            for (int node = firstNode(y); node < end; node++) {
                Basics.put(firstLink, node, links);
                linkNode(y, Basics.get(left, node) | GUARDS, Basics.get(code, node));
            }
        }

        private void linkNode(int y, int guarded, int number) {
            int end = fills.firstOf(y + 1);
            for (int fill = fills.firstOf(y); fill < end; fill++) {
                int rest = guarded - fills.taken[fill];
                if ((rest & GUARDS) == GUARDS) {
                    link(fill, rest & ~GUARDS, number - fills.code[fill]);
                }
            }
        }

        private void link(int fill, int rest, int number) {
            if (links < 0 || links >= LINKS || number < 0 || number >= CODES) {
                return;
            }
            if (nodeByCode[number] == NONE) {
                nodeByCode[number] = addNode(rest, number);
            }
            linkFill[links] = fill;
            linkTo[links] = nodeByCode[number];
            links++;
        }

        private int addNode(int rest, int number) {
            int node = Basics.cut(nodes, NODES - 1);
            left[node] = rest;
            code[node] = number;
            nodes = node + 1;
            return node;
        }

        private void sumAhead() {
            for (int node = Math.min(nodes, NODES) - 1; node >= 0; node--) {
                long ways = isLast(node) ? 1 : 0;
                long weighs = ways;
                int end = firstLinkOf(node + 1);
                for (int link = firstLinkOf(node); link < end; link++) {
                    int to = linkTo[link];
                    if (to >= 0 && to < NODES) {
                        ways += ahead[to];
                        weighs += fills.partOf(0, linkFill[link]) * heftAhead[to];
                    }
                }
                ahead[node] = ways;
                heftAhead[node] = weighs;
            }
        }

        private void sumBehind() {
            Arrays.fill(behind, 0);
            behind[0] = 1;
            for (int node = 0; node < nodes && node < NODES; node++) {
                int end = firstLinkOf(node + 1);
                for (int link = firstLinkOf(node); link < end; link++) {
                    int to = linkTo[link];
                    if (to >= 0 && to < NODES) {
                        behind[to] += behind[node];
                    }
                }
            }
        }

        private void sumSeenCells() {
            Arrays.fill(seen, 0);
            for (int y = 0; y < rows; y++) {
                int endNode = firstNode(y + 1);
                for (int node = firstNode(y); node < endNode; node++) {
                    int end = firstLinkOf(node + 1);
                    for (int link = firstLinkOf(node); link < end; link++) {
                        addSeen(y, lineBy(link), behind[node] * aheadOf(linkTo[link]));
                    }
                }
            }
        }

        private void addSeen(int y, int line, long times) {
            for (int x = 0; x < SIDE; x++) {
                int at = seenAt(y, x, Grid.inLine(line, x));
                if (at >= 0 && at < seen.length) {
                    seen[at] += times;
                }
            }
        }

        private static int seenAt(int y, int x, int v) {
            return (SIDE * y + x) * VALUES + v;
        }

        private int firstNode(int level) {
            return Basics.cut(Basics.get(levels, level), NODES);
        }

        /** The links of a node are those from its first to the first of the node behind it. */
        int firstLinkOf(int node) {
            return Basics.cut(Basics.get(firstLink, node), LINKS);
        }

        /** Whether all rows are laid there. */
        boolean isLast(int node) {
            return node >= firstNode(rows);
        }

        int nodeBy(int link) {
            return Basics.get(linkTo, link);
        }

        int lineBy(int link) {
            return Basics.get(fills.line, Basics.get(linkFill, link));
        }

        long partBy(int which, int link) {
            return link >= 0 && link < LINKS ? fills.partOf(which, linkFill[link]) : 0;
        }

        long aheadOf(int node) {
            return node >= 0 && node < NODES ? ahead[node] : 0;
        }

        long size() {
            return aheadOf(0);
        }

        long heft() {
            return Basics.get(heftAhead, 0);
        }

        long timesSeen(int y, int x, int v) {
            return Basics.get(seen, seenAt(y, x, v));
        }

        long sumSeen(int y, int x) {
            long sum = 0;
            for (int v = 0; v < VALUES; v++) {
                sum += v * timesSeen(y, x, v);
            }
            return sum;
        }

        int lowestOf(int y, int x) {
            int v = 0;
            while (v < TOTAL_LIMIT && timesSeen(y, x, v) == 0) {
                v++;
            }
            return v;
        }

        int highestOf(int y, int x) {
            int v = TOTAL_LIMIT;
            while (v > 0 && timesSeen(y, x, v) == 0) {
                v--;
            }
            return v;
        }

        /** The link of a node by a line; NONE if there is none. */
        int linkBy(int node, int line) {
            int end = firstLinkOf(node + 1);
            for (int link = firstLinkOf(node); link < end; link++) {
                if (lineBy(link) == line) {
                    return link;
                }
            }
            return NONE;
        }

        long rankOf(long cells) {
            long before = 0;
            int node = 0;
            for (int y = 0; y < rows; y++) {
                int found = linkBy(node, Grid.lineOf(cells, y));
                if (found == NONE) {
                    return NONE;
                }
                for (int link = firstLinkOf(node); link < found; link++) {
                    before += aheadOf(linkTo[link]);
                }
                node = nodeBy(found);
            }
            return before;
        }

        long cellsOf(long rank) {
            long cells = 0;
            long rest = rank;
            int node = 0;
            for (int y = 0; y < rows; y++) {
                int link = firstLinkOf(node);
                int last = firstLinkOf(node + 1) - 1;
                for (; link < last; link++) {
                    long ways = aheadOf(linkTo[link]);
                    if (rest < ways) {
                        break;
                    }
                    rest -= ways;
                }
                cells = Grid.withLine(cells, y, lineBy(link));
                node = nodeBy(link);
            }
            return cells;
        }
    }

    /** What share of the fiber lies as far out as a table by one of the statistics. */
    private static final class Measures {
        private static final int SLOTS = STATISTICS * Fiber.NODES;

        private final Fiber fiber;
        /** What the rows that are left behind a node can bring at the least, and at the most. */
        private final long[] low = new long[SLOTS];
        private final long[] high = new long[SLOTS];
        private final boolean[] bounded = new boolean[STATISTICS];
        /** The latest answer by each statistic: it hangs on the table's own value alone. */
        private final boolean[] counted = new boolean[STATISTICS];
        private final long[] value = new long[STATISTICS];
        private final long[] number = new long[STATISTICS];
        private final long[] heft = new long[STATISTICS];
        /** What is being gathered. */
        private long limit;
        private long found;
        private long foundHeft;

        Measures(Fiber fiber) {
            this.fiber = fiber;
        }

        void forget() {
            for (int which = 0; which < STATISTICS; which++) {
                bounded[which] = false;
                counted[which] = false;
            }
        }

        long valueOf(int which, long cells) {
            long sum = start(which);
            int node = 0;
            for (int y = 0; y < fiber.rows; y++) {
                int link = fiber.linkBy(node, Grid.lineOf(cells, y));
                if (link == NONE) {
                    return ABSENT;
                }
                sum = join(which, sum, fiber.partBy(which, link));
                node = fiber.nodeBy(link);
            }
            return sum;
        }

        long farOut(int which, long cells) {
            gatherAll(which, valueOf(which, cells));
            return Basics.get(number, which);
        }

        long farOutHeft(int which, long cells) {
            gatherAll(which, valueOf(which, cells));
            return Basics.get(heft, which);
        }

        long firstHeaviest() {
            bound(0);
            return firstWith(high);
        }

        long firstLightest() {
            bound(0);
            return firstWith(low);
        }

        /** The first link that keeps to the best leads to the least rank of all that have it. */
        private long firstWith(long[] best) {
            long before = 0;
            int node = 0;
            for (int y = 0; y < fiber.rows; y++) {
                long due = Basics.get(best, slot(0, node));
                int next = node;
                int end = fiber.firstLinkOf(node + 1);
                for (int link = fiber.firstLinkOf(node); link < end; link++) {
                    int to = fiber.nodeBy(link);
                    long weight = fiber.partBy(0, link) * Basics.get(best, slot(0, to));
                    if (fiber.aheadOf(to) > 0 && weight == due) {
                        next = to;
                        break;
                    }
                    before += fiber.aheadOf(to);
                }
                node = next;
            }
            return before;
        }

        private static int slot(int which, int node) {
            return which * Fiber.NODES + node;
        }

        private static long start(int which) {
            return which == 0 ? 1 : 0;
        }

        private static long join(int which, long a, long b) {
            switch (which) {
                case 0:
                    return a * b;
                case 3:
                    return Math.max(a, b);
                default:
                    return a + b;
            }
        }

        private void bound(int which) {
            if (Basics.get(bounded, which)) {
                return;
            }
            Basics.put(bounded, which, true);
            for (int node = fiber.nodes - 1; node >= 0; node--) {
                if (fiber.isLast(node)) {
                    Basics.put(low, slot(which, node), start(which));
                    Basics.put(high, slot(which, node), start(which));
                } else {
                    boundNode(which, node);
                }
            }
        }

        private void boundNode(int which, int node) {
            boolean first = true;
            long least = 0;
            long most = 0;
            int end = fiber.firstLinkOf(node + 1);
            for (int link = fiber.firstLinkOf(node); link < end; link++) {
                int to = fiber.linkTo[link];
                if (fiber.aheadOf(to) > 0) {
                    long part = fiber.partBy(which, link);
                    long lower = join(which, part, Basics.get(low, slot(which, to)));
                    long upper = join(which, part, Basics.get(high, slot(which, to)));
                    least = first ? lower : Math.min(least, lower);
                    most = first ? upper : Math.max(most, upper);
                    first = false;
                }
            }
            Basics.put(low, slot(which, node), least);
            Basics.put(high, slot(which, node), most);
        }

        private void gatherAll(int which, long worth) {
            if (Basics.get(counted, which) && Basics.get(value, which) == worth) {
                return;
            }
            bound(which);
            limit = worth;
            found = 0;
            foundHeft = 0;
            gather(this, which, 0, 0, start(which), 1);
            Basics.put(counted, which, true);
            Basics.put(value, which, worth);
            Basics.put(number, which, found);
            Basics.put(heft, which, foundHeft);
        }

        /** Whole branches are taken or left by their bounds: few tables are gone through. */
        private static void gather(Measures m, int which, int node, int depth, long sum,
                long weighs) {
            int at = slot(which, node);
            if (depth > SIDE || node < 0 || node >= Fiber.NODES || at < 0 || at >= SLOTS) {
                return;
            }
            long lower = join(which, sum, m.low[at]);
            long upper = join(which, sum, m.high[at]);
            boolean all = which == 0 ? upper <= m.limit : lower >= m.limit;
            boolean any = which == 0 ? lower <= m.limit : upper >= m.limit;
            if (all) {
                m.found += m.fiber.ahead[node];
                m.foundHeft += weighs * m.fiber.heftAhead[node];
            } else if (any) {
                gatherBehind(m, which, node, depth, sum, weighs);
            }
        }

        private static void gatherBehind(Measures m, int which, int node, int depth, long sum,
                long weighs) {
            Fiber fiber = m.fiber;
            int end = fiber.firstLinkOf(node + 1);
            for (int link = fiber.firstLinkOf(node); link < end; link++) {
                int to = fiber.linkTo[link];
                if (to > node && fiber.aheadOf(to) > 0) {
                    long part = fiber.partBy(which, link);
                    long weight = which == 0 ? part : fiber.partBy(0, link);
                    gather(m, which, to, depth + 1, join(which, sum, part), weighs * weight);
                }
            }
        }
    }

    /** All swaps and turns that no hole forbids, each once: what it adds, what it lessens. */
    private static final class Moves {
        static final int SWAPS = 72;
        private static final int LIMIT = SWAPS + 192;

        int swapEnd;
        int moveEnd;
        /** How many choices of two rows and two columns there are. */
        int choices;
        private final long[] step = new long[LIMIT];
        private final int[] lessA = new int[LIMIT];
        private final int[] lessB = new int[LIMIT];
        private final int[] lessC = new int[LIMIT];

        void make(Sheet sheet) {
            moveEnd = 0;
            choices = sheet.rows * (sheet.rows - 1) * sheet.columns * (sheet.columns - 1);
            for (int r = 0; r < sheet.rows; r++) {
                for (int s = r + 1; s < sheet.rows; s++) {
                    addSwaps(sheet, r, s);
                }
            }
            swapEnd = moveEnd;
            // the first row of a turn is its least: its three beginnings are one turn
            for (int r = 0; r < sheet.rows; r++) {
                for (int s = r + 1; s < sheet.rows; s++) {
                    for (int t = r + 1; t < sheet.rows; t++) {
                        addTurns(sheet, r, s, t);
                    }
                }
            }
        }

        private void addSwaps(Sheet sheet, int r, int s) {
            for (int c = 0; c < sheet.columns; c++) {
                for (int d = 0; d < sheet.columns; d++) {
                    boolean free = !sheet.isHole(r, c) && !sheet.isHole(r, d)
                            && !sheet.isHole(s, c) && !sheet.isHole(s, d);
                    if (c != d && free) {
                        int less = Grid.shift(s, c);
                        add(Grid.swapStep(r, s, c, d), Grid.shift(r, d), less, less);
                    }
                }
            }
        }

        private void addTurns(Sheet sheet, int r, int s, int t) {
            for (int c = 0; c < sheet.columns && s != t; c++) {
                for (int d = 0; d < sheet.columns; d++) {
                    for (int e = 0; e < sheet.columns; e++) {
                        boolean free = !sheet.isHole(r, c) && !sheet.isHole(r, d)
                                && !sheet.isHole(s, d) && !sheet.isHole(s, e)
                                && !sheet.isHole(t, e) && !sheet.isHole(t, c);
                        if (c != d && d != e && e != c && free) {
                            long more = Grid.one(r, c) + Grid.one(s, d) + Grid.one(t, e);
                            long less = Grid.one(r, d) + Grid.one(s, e) + Grid.one(t, c);
                            add(more - less, Grid.shift(r, d), Grid.shift(s, e), Grid.shift(t, c));
                        }
                    }
                }
            }
        }

        private void add(long by, int a, int b, int c) {
            if (moveEnd < 0 || moveEnd >= LIMIT) {
                return;
            }
            step[moveEnd] = by;
            lessA[moveEnd] = a;
            lessB[moveEnd] = b;
            lessC[moveEnd] = c;
            moveEnd++;
        }

        boolean can(long cells, int move) {
            return move >= 0 && move < LIMIT && Grid.get(cells, lessA[move]) > 0
                    && Grid.get(cells, lessB[move]) > 0 && Grid.get(cells, lessC[move]) > 0;
        }

        /** The cells behind a move. */
        long moved(long cells, int move) {
            return move >= 0 && move < LIMIT ? cells + step[move] : cells;
        }

        int swapsOn(long cells) {
            int found = 0;
            for (int move = 0; move < swapEnd; move++) {
                if (can(cells, move)) {
                    found++;
                }
            }
            return found;
        }
    }

    /** A listed fiber as a net: its tables by rank, and which are one swap apart. */
    private static final class Net {
        private static final int FIRST_ROOM = 256;
        private static final int MOST_NEARS = LISTED * Moves.SWAPS;
        private static final long TOP_BIT = 1L << 63;

        private final Fiber fiber;
        private final Moves moves;
        private boolean prepared;
        private int size;
        private final long[] list = new long[LISTED];
        private final int[] firstNear = new int[LISTED + 1];
        /** Grown by doubling and kept: most fibers are small, and all tables share one room. */
        private int[] near = new int[FIRST_ROOM];
        private int nears;
        private final int[] head = new int[LISTED];
        private final int[] members = new int[LISTED];
        private int heads;
        private int joinedHeads;
        private final int[] distances = new int[LISTED];
        private int source;
        private final int[] queue = new int[LISTED];
        private int queued;
        private long[] rowsNow = new long[LISTED];
        private long[] rowsNext = new long[LISTED];

        Net(Fiber fiber, Moves moves) {
            this.fiber = fiber;
            this.moves = moves;
        }

        void forget() {
            prepared = false;
        }

        void prepare() {
            if (prepared) {
                return;
            }
            prepared = true;
            source = NONE;
            joinedHeads = NONE;
            size = (int) Math.min(LISTED, fiber.size());
            for (int i = 0; i < size; i++) {
                Basics.put(list, i, fiber.cellsOf(i));
            }
            nears = 0;
            for (int i = 0; i < size; i++) {
                Basics.put(firstNear, i, nears);
                linkSwaps(cellsAt(i));
            }
            Basics.put(firstNear, size, nears);
            splitIntoClasses();
        }

        private void linkSwaps(long cells) {
            for (int move = 0; move < moves.swapEnd; move++) {
                if (moves.can(cells, move)) {
                    addNear(find(moves.moved(cells, move)));
                }
            }
        }

        private void addNear(int at) {
            if (nears >= near.length && near.length < MOST_NEARS) {
                near = Arrays.copyOf(near, Math.min(MOST_NEARS, 2 * near.length));
            }
            if (nears >= 0 && nears < near.length) {
                near[nears] = at;
                nears++;
            }
        }

        private long cellsAt(int at) {
            return Basics.get(list, at);
        }

        /** What is one swap from a table are those from its first to the first of the next. */
        private int firstNearOf(int at) {
            int first = at >= 0 && at <= LISTED ? firstNear[at] : 0;
            return first >= 0 && first <= near.length ? first : 0;
        }

        /** The list is in order by its longs without sign: the first cell may reach the top bit. */
        private int find(long cells) {
            long sought = cells ^ TOP_BIT;
            int at = 0;
            for (int leap = 512; leap > 0; leap >>= 1) {
                int next = at + leap;
                if (next < size && next < LISTED && (list[next] ^ TOP_BIT) <= sought) {
                    at = next;
                }
            }
            return at;
        }

        private void splitIntoClasses() {
            Arrays.fill(head, NONE);
            heads = 0;
            for (int i = 0; i < size; i++) {
                if (Basics.get(head, i) == NONE) {
                    heads++;
                    spread(head, i, i, 0);
                    Basics.put(members, i, queued);
                }
            }
        }

        /** Marks all that swaps lead to from a table: it with a mark, each step with more of it. */
        private void spread(int[] marks, int from, int mark, int more) {
            queued = 0;
            reach(marks, from, mark);
            for (int i = 0; i < queued && i < LISTED; i++) {
                int at = Basics.get(queue, i);
                int next = Basics.get(marks, at) + more;
                int end = firstNearOf(at + 1);
                for (int link = firstNearOf(at); link < end; link++) {
                    reach(marks, near[link], next);
                }
            }
        }

        private void reach(int[] marks, int at, int mark) {
            boolean open = at >= 0 && at < marks.length && marks[at] == NONE;
            if (open && queued >= 0 && queued < LISTED) {
                marks[at] = mark;
                queue[queued] = at;
                queued++;
            }
        }

        private void measureFrom(int from) {
            if (source != from) {
                Arrays.fill(distances, NONE);
                spread(distances, from, 0, 1);
                source = from;
            }
        }

        private int distanceOf(int at) {
            return Basics.get(distances, at);
        }

        int classTotal() {
            return heads;
        }

        int headOf(int at) {
            return Basics.get(head, at);
        }

        int classSize(int at) {
            return Basics.get(members, headOf(at));
        }

        int joinedTotal() {
            if (joinedHeads == NONE) {
                joinedHeads = heads > 1 ? countJoined() : heads;
            }
            return joinedHeads;
        }

        /** The distances serve as marks here, so none of them holds behind it. */
        private int countJoined() {
            source = NONE;
            Arrays.fill(distances, NONE);
            int found = 0;
            for (int i = 0; i < size; i++) {
                if (distanceOf(i) == NONE) {
                    found++;
                    spreadByAll(i);
                }
            }
            return found;
        }

        private void spreadByAll(int from) {
            queued = 0;
            reach(distances, from, 0);
            for (int i = 0; i < queued && i < LISTED; i++) {
                long cells = cellsAt(Basics.get(queue, i));
                for (int move = 0; move < moves.moveEnd; move++) {
                    if (moves.can(cells, move)) {
                        reach(distances, find(moves.moved(cells, move)), 0);
                    }
                }
            }
        }

        int distance(int from, int to) {
            if (source == to) {
                return distanceOf(from);
            }
            measureFrom(from);
            return distanceOf(to);
        }

        int greatestDistance(int from) {
            return distanceOf(firstAtGreatest(from));
        }

        int firstAtGreatest(int from) {
            measureFrom(from);
            int best = from;
            for (int i = 0; i < size; i++) {
                if (distanceOf(i) > distanceOf(best)) {
                    best = i;
                }
            }
            return best;
        }

        int reached(int from, int n) {
            measureFrom(from);
            int found = 0;
            for (int i = 0; i < size; i++) {
                if (distanceOf(i) != NONE && distanceOf(i) <= n) {
                    found++;
                }
            }
            return found;
        }

        long choiceRows(int from, int n, int to) {
            Arrays.fill(rowsNow, 0);
            Basics.put(rowsNow, from, 1);
            for (int step = 0; step < n; step++) {
                for (int at = 0; at < size; at++) {
                    Basics.put(rowsNext, at, choiceRowsTo(at));
                }
                long[] spare = rowsNow;
                rowsNow = rowsNext;
                rowsNext = spare;
            }
            return Basics.get(rowsNow, to);
        }

        /** Each swap is two choices (its rows and columns either way round); all others stay. */
        private long choiceRowsTo(int at) {
            int first = firstNearOf(at);
            int end = firstNearOf(at + 1);
            long sum = Basics.get(rowsNow, at) * (moves.choices - 2 * (end - first));
            for (int link = first; link < end; link++) {
                int other = near[link];
                sum += other >= 0 && other < rowsNow.length ? 2 * rowsNow[other] : 0;
            }
            return sum;
        }
    }
}
