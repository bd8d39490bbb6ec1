import java.math.BigInteger;
import java.nio.charset.StandardCharsets;
import java.util.ArrayDeque;
import java.util.ArrayList;
import java.util.Arrays;
import java.util.HashMap;
import java.util.LinkedHashSet;
import java.util.List;
import java.util.Map;
import java.util.Set;
import java.util.TreeMap;
import java.util.regex.Matcher;
import java.util.regex.Pattern;

/**
 * The document's words done as plainly as can be, with all tables of a fiber written out: what
 * the class answers is held against it. Nothing here is shared with the class.
 */
final class Model {
    private static final class Fault extends Exception {
        private static final long serialVersionUID = 1L;
        final int kind;
        final int place;

        Fault(int kind, int place) {
            this.kind = kind;
            this.place = place;
        }
    }

    private record Token(String text, int place) {
    }

    private static final Pattern TOKENS = Pattern.compile("[a-z]+|[0-9]+|[ \n]+|.", Pattern.DOTALL);

    private final List<Integer> tape = new ArrayList<>();
    private int faultKind = 0;
    private int faultPlace = -1;
    private int rows = 0;
    private int columns = 0;
    private int lines = 0;
    private int[][] told;
    private int[][] now;
    private boolean[][] holes;
    private final List<int[][]> past = new ArrayList<>();
    private List<int[][]> fiber;
    private Map<String, Integer> ranks;
    private Map<Integer, Map<Integer, Integer>> distances;

    // the tape and the text

    int feed(int... words) {
        if (tape.size() + 20 > 300) {
            return -1;
        }
        for (int word : words) {
            for (byte b : new byte[] {(byte) (word >> 24), (byte) (word >> 16), (byte) (word >> 8),
                (byte) word}) {
                tape.add(b & 0xff);
            }
        }
        return tape.size();
    }

    int end(int n) {
        if (n < 0 || n > tape.size()) {
            return -1;
        }
        tape.subList(n, tape.size()).clear();
        return n;
    }

    int table() {
        byte[] bytes = new byte[tape.size()];
        for (int i = 0; i < bytes.length; i++) {
            bytes[i] = (byte) (int) tape.get(i);
        }
        tape.clear();
        faultKind = 0;
        faultPlace = -1;
        try {
            parse(new String(bytes, StandardCharsets.ISO_8859_1));
        } catch (Fault f) {
            faultKind = f.kind;
            faultPlace = f.place;
            return -4;
        }
        return lines;
    }

    private void parse(String text) throws Fault {
        List<Token> tokens = new ArrayList<>();
        Matcher m = TOKENS.matcher(text);
        while (m.find()) {
            if (!m.group().isBlank() || !m.group().matches("[ \n]+")) {
                tokens.add(new Token(m.group(), m.start()));
            }
        }
        tokens.add(new Token("", text.length()));
        if (tokens.size() == 1) {
            rows = 0;
            columns = 0;
            lines = 0;
            past.clear();
            told = null;
            return;
        }
        ArrayDeque<Token> left = new ArrayDeque<>(tokens);
        need(left, "table");
        need(left, "rows");
        int r = number(left, 2, 4);
        need(left, "columns");
        int c = number(left, 2, 4);
        need(left, ";");
        int[][] cells = new int[r][c];
        boolean[][] gaps = new boolean[r][c];
        int total = 0;
        for (int y = 0; y < r; y++) {
            need(left, "row");
            for (int x = 0; x < c; x++) {
                int place = left.peek().place;
                cells[y][x] = number(left, 0, 9);
                total += cells[y][x];
                if (total > 20) {
                    throw new Fault(2, place);
                }
            }
            need(left, ";");
        }
        int count = 1 + r;
        while (!left.peek().text.isEmpty()) {
            need(left, "hole");
            int y = number(left, 0, r - 1);
            int place = left.peek().place;
            int x = number(left, 0, c - 1);
            if (gaps[y][x] || cells[y][x] != 0) {
                throw new Fault(2, place);
            }
            gaps[y][x] = true;
            need(left, ";");
            count++;
        }
        rows = r;
        columns = c;
        lines = count;
        told = cells;
        now = copy(cells);
        holes = gaps;
        past.clear();
        fiber = null;
    }

    private static void need(ArrayDeque<Token> left, String text) throws Fault {
        Token t = left.peek();
        if (!t.text.equals(text)) {
            throw new Fault(1, t.place);
        }
        left.remove();
    }

    private static int number(ArrayDeque<Token> left, int low, int high) throws Fault {
        Token t = left.peek();
        if (!t.text.matches("[0-9]+")) {
            throw new Fault(1, t.place);
        }
        BigInteger value = new BigInteger(t.text);
        if (value.compareTo(BigInteger.valueOf(low)) < 0
                || value.compareTo(BigInteger.valueOf(high)) > 0) {
            throw new Fault(2, t.place);
        }
        left.remove();
        return value.intValue();
    }

    int fault(int what) {
        return what == 0 ? faultKind : what == 1 ? faultPlace : -1;
    }

    int count(int what) {
        int gaps = 0;
        int total = 0;
        for (int y = 0; y < rows; y++) {
            for (int x = 0; x < columns; x++) {
                gaps += holes[y][x] ? 1 : 0;
                total += told[y][x];
            }
        }
        int[] all = {rows, columns, total, gaps, past.size(), lines, tape.size()};
        return what >= 0 && what < all.length ? all[what] : -1;
    }

    // cells and sums

    private boolean has(int y, int x) {
        return told != null && y >= 0 && x >= 0 && y < rows && x < columns;
    }

    int cell(int y, int x) {
        return has(y, x) ? now[y][x] : -2;
    }

    int hole(int y, int x) {
        return has(y, x) ? holes[y][x] ? 1 : 0 : -2;
    }

    int row(int y) {
        return has(y, 0) ? Arrays.stream(told[y]).sum() : -2;
    }

    int column(int x) {
        if (!has(0, x)) {
            return -2;
        }
        int sum = 0;
        for (int[] line : told) {
            sum += line[x];
        }
        return sum;
    }

    private static int[][] copy(int[][] cells) {
        int[][] other = new int[cells.length][];
        for (int y = 0; y < cells.length; y++) {
            other[y] = cells[y].clone();
        }
        return other;
    }

    // the fiber, written out

    private List<int[][]> fiber() {
        if (fiber == null) {
            fiber = new ArrayList<>();
            ranks = new HashMap<>();
            distances = new HashMap<>();
            int[] rowLeft = new int[rows];
            int[] columnLeft = new int[columns];
            for (int y = 0; y < rows; y++) {
                rowLeft[y] = row(y);
            }
            for (int x = 0; x < columns; x++) {
                columnLeft[x] = column(x);
            }
            write(new int[rows][columns], 0, rowLeft, columnLeft);
        }
        return fiber;
    }

    private void write(int[][] cells, int k, int[] rowLeft, int[] columnLeft) {
        int y = k / columns;
        int x = k % columns;
        if (x == 0 && y > 0 && rowLeft[y - 1] != 0) {
            return;
        }
        if (y == rows) {
            for (int left : columnLeft) {
                if (left != 0) {
                    return;
                }
            }
            ranks.put(Arrays.deepToString(cells), fiber.size());
            fiber.add(copy(cells));
            return;
        }
        int top = holes[y][x] ? 0 : Math.min(rowLeft[y], columnLeft[x]);
        for (int v = 0; v <= top; v++) {
            cells[y][x] = v;
            rowLeft[y] -= v;
            columnLeft[x] -= v;
            write(cells, k + 1, rowLeft, columnLeft);
            rowLeft[y] += v;
            columnLeft[x] += v;
        }
        cells[y][x] = 0;
    }

    private int rankOf(int[][] cells) {
        return ranks.get(Arrays.deepToString(cells));
    }

    long tables() {
        return told == null ? -2 : fiber().size();
    }

    long rank() {
        if (told == null) {
            return -2;
        }
        fiber();
        return rankOf(now);
    }

    int of(long rank, int y, int x) {
        if (!has(y, x) || rank < 0 || rank >= fiber().size()) {
            return -2;
        }
        return fiber().get((int) rank)[y][x];
    }

    int least(int y, int x) {
        return has(y, x) ? fiber().stream().mapToInt(t -> t[y][x]).min().getAsInt() : -2;
    }

    int most(int y, int x) {
        return has(y, x) ? fiber().stream().mapToInt(t -> t[y][x]).max().getAsInt() : -2;
    }

    int fixed() {
        if (told == null) {
            return -2;
        }
        int bits = 0;
        int bit = 1;
        for (int y = 0; y < rows; y++) {
            for (int x = 0; x < columns; x++) {
                if (!holes[y][x] && least(y, x) == most(y, x)) {
                    bits += bit;
                }
                bit += bit;
            }
        }
        return bits;
    }

    long having(int y, int x, int v) {
        if (!has(y, x) || v < 0 || v > 20) {
            return -2;
        }
        return fiber().stream().filter(t -> t[y][x] == v).count();
    }

    private static long lowest(BigInteger above, BigInteger below, int what) {
        BigInteger d = above.gcd(below);
        return (what == 0 ? above : below).divide(d).longValueExact();
    }

    long mean(int y, int x, int what) {
        if (!has(y, x) || what < 0 || what > 1) {
            return -2;
        }
        long sum = fiber().stream().mapToLong(t -> t[y][x]).sum();
        return lowest(BigInteger.valueOf(sum), BigInteger.valueOf(fiber().size()), what);
    }

    // weights and statistics

    private static BigInteger factorial(int n) {
        BigInteger product = BigInteger.ONE;
        for (int i = 2; i <= n; i++) {
            product = product.multiply(BigInteger.valueOf(i));
        }
        return product;
    }

    private BigInteger statisticOf(int which, int[][] t) {
        BigInteger sums = BigInteger.ONE;
        for (int y = 0; y < rows; y++) {
            sums = row(y) == 0 ? sums : sums.multiply(BigInteger.valueOf(row(y)));
        }
        for (int x = 0; x < columns; x++) {
            sums = column(x) == 0 ? sums : sums.multiply(BigInteger.valueOf(column(x)));
        }
        BigInteger weight = BigInteger.ONE;
        BigInteger squares = BigInteger.ZERO;
        long places = 0;
        long most = 0;
        for (int y = 0; y < rows; y++) {
            weight = weight.multiply(factorial(row(y)));
            for (int x = 0; x < columns; x++) {
                int v = t[y][x];
                weight = weight.divide(factorial(v));
                if (row(y) != 0 && column(x) != 0) {
                    squares = squares.add(sums.multiply(BigInteger.valueOf(v * v))
                            .divide(BigInteger.valueOf(row(y) * column(x))));
                }
                places += v * (y + 1) * (x + 1);
                most = Math.max(most, v);
            }
        }
        return which == 0 ? weight : which == 1 ? squares
                : BigInteger.valueOf(which == 2 ? places : most);
    }

    long weight() {
        return statistic(0);
    }

    long weights() {
        if (told == null) {
            return -2;
        }
        BigInteger sum = BigInteger.ZERO;
        for (int[][] t : fiber()) {
            sum = sum.add(statisticOf(0, t));
        }
        return sum.longValueExact();
    }

    private long firstBest(int sign) {
        if (told == null) {
            return -2;
        }
        int best = 0;
        for (int i = 1; i < fiber().size(); i++) {
            int unlike = statisticOf(0, fiber().get(i)).compareTo(statisticOf(0, fiber().get(best)));
            best = unlike * sign > 0 ? i : best;
        }
        return best;
    }

    long heaviest() {
        return firstBest(1);
    }

    long lightest() {
        return firstBest(-1);
    }

    long statistic(int which) {
        return told == null || which < 0 || which > 3 ? -2
                : statisticOf(which, now).longValueExact();
    }

    private List<int[][]> farOut(int which) {
        List<int[][]> found = new ArrayList<>();
        BigInteger own = statisticOf(which, now);
        for (int[][] t : fiber()) {
            int unlike = statisticOf(which, t).compareTo(own);
            if (which == 0 ? unlike <= 0 : unlike >= 0) {
                found.add(t);
            }
        }
        return found;
    }

    long extreme(int which) {
        return told == null || which < 0 || which > 3 ? -2 : farOut(which).size();
    }

    long share(int which, int what) {
        if (told == null || which < 0 || which > 3 || what < 0 || what > 1) {
            return -2;
        }
        BigInteger sum = BigInteger.ZERO;
        for (int[][] t : farOut(which)) {
            sum = sum.add(statisticOf(0, t));
        }
        return lowest(sum, BigInteger.valueOf(weights()), what);
    }

    long chi() {
        if (told == null) {
            return -2;
        }
        double sum = 0.0;
        for (int y = 0; y < rows; y++) {
            for (int x = 0; x < columns; x++) {
                double e = count(2) == 0 ? 0.0 : (double) (row(y) * column(x)) / (double) count(2);
                if (e > 0.0) {
                    double off = now[y][x] - e;
                    sum += off * off / e;
                }
            }
        }
        return Double.doubleToLongBits(sum);
    }

    int excess(int y, int x) {
        if (!has(y, x)) {
            return -2;
        }
        float e = count(2) == 0 ? 0f : (float) (row(y) * column(x)) / (float) count(2);
        return Float.floatToIntBits((float) now[y][x] - e);
    }

    // swaps and turns

    /** The table with more in some cells and less in others; null if that can't be. */
    private int[][] moved(int[][] t, int[][] more, int[][] less) {
        int[][] other = copy(t);
        for (int[] p : more) {
            other[p[0]][p[1]]++;
        }
        for (int[] p : less) {
            other[p[0]][p[1]]--;
        }
        for (int[][] all : new int[][][] {more, less}) {
            for (int[] p : all) {
                if (holes[p[0]][p[1]] || other[p[0]][p[1]] < 0) {
                    return null;
                }
            }
        }
        return other;
    }

    private int[][] swapped(int[][] t, int r, int s, int c, int d) {
        return moved(t, new int[][] {{r, c}, {s, d}}, new int[][] {{r, d}, {s, c}});
    }

    /** What every choice leads to; null where it can't be done. */
    private List<int[][]> choices(int[][] t) {
        List<int[][]> all = new ArrayList<>();
        for (int r = 0; r < rows; r++) {
            for (int s = 0; s < rows; s++) {
                for (int c = 0; c < columns; c++) {
                    for (int d = 0; d < columns; d++) {
                        if (r != s && c != d) {
                            all.add(swapped(t, r, s, c, d));
                        }
                    }
                }
            }
        }
        return all;
    }

    private Set<Integer> near(int rank) {
        Set<Integer> found = new LinkedHashSet<>();
        for (int[][] t : choices(fiber().get(rank))) {
            if (t != null) {
                found.add(rankOf(t));
            }
        }
        return found;
    }

    private Set<Integer> turned(int rank) {
        Set<Integer> found = new LinkedHashSet<>();
        int[][] t = fiber().get(rank);
        for (int i = 0; i < rows * rows * rows; i++) {
            int[] r = {i % rows, i / rows % rows, i / rows / rows};
            for (int k = 0; k < columns * columns * columns; k++) {
                int[] c = {k % columns, k / columns % columns, k / columns / columns};
                boolean unlike = r[0] != r[1] && r[1] != r[2] && r[2] != r[0]
                        && c[0] != c[1] && c[1] != c[2] && c[2] != c[0];
                int[][] other = !unlike ? null : moved(t,
                        new int[][] {{r[0], c[0]}, {r[1], c[1]}, {r[2], c[2]}},
                        new int[][] {{r[0], c[1]}, {r[1], c[2]}, {r[2], c[0]}});
                if (other != null) {
                    found.add(rankOf(other));
                }
            }
        }
        return found;
    }

    /** All that swaps (and turns) lead to from a rank, with the fewest steps. */
    private Map<Integer, Integer> from(int rank, boolean turns) {
        if (!turns && distances.containsKey(rank)) {
            return distances.get(rank);
        }
        Map<Integer, Integer> steps = new TreeMap<>();
        ArrayDeque<Integer> open = new ArrayDeque<>();
        steps.put(rank, 0);
        open.add(rank);
        while (!open.isEmpty()) {
            int at = open.remove();
            Set<Integer> next = near(at);
            if (turns) {
                next.addAll(turned(at));
            }
            for (int other : next) {
                if (!steps.containsKey(other)) {
                    steps.put(other, steps.get(at) + 1);
                    open.add(other);
                }
            }
        }
        if (!turns) {
            distances.put(rank, steps);
        }
        return steps;
    }

    int swaps() {
        if (told == null) {
            return -2;
        }
        fiber();
        return near(rankOf(now)).size();
    }

    private int unlisted() {
        return told == null ? -2 : fiber().size() > 1000 ? -3 : 0;
    }

    private int unlisted(int rank) {
        int no = unlisted();
        return no != 0 ? no : rank < 0 || rank >= fiber().size() ? -2 : 0;
    }

    private int parts(boolean turns) {
        int no = unlisted();
        if (no != 0) {
            return no;
        }
        Set<Integer> seen = new LinkedHashSet<>();
        int parts = 0;
        for (int i = 0; i < fiber().size(); i++) {
            if (!seen.contains(i)) {
                parts++;
                seen.addAll(from(i, turns).keySet());
            }
        }
        return parts;
    }

    int classes() {
        return parts(false);
    }

    int joined() {
        return parts(true);
    }

    int classOf(int rank) {
        int no = unlisted(rank);
        return no != 0 ? no : from(rank, false).keySet().iterator().next();
    }

    int sized(int rank) {
        int no = unlisted(rank);
        return no != 0 ? no : from(rank, false).size();
    }

    int apart(int rank, int other) {
        int no = unlisted(rank) != 0 ? unlisted(rank) : unlisted(other);
        return no != 0 ? no : from(rank, false).getOrDefault(other, -1);
    }

    int far() {
        int no = unlisted();
        return no != 0 ? no
                : from(rankOf(now), false).values().stream().mapToInt(d -> d).max().getAsInt();
    }

    int farthest() {
        int no = unlisted();
        if (no != 0) {
            return no;
        }
        int far = far();
        return from(rankOf(now), false).entrySet().stream().filter(e -> e.getValue() == far)
                .mapToInt(Map.Entry::getKey).min().getAsInt();
    }

    int within(int n) {
        if (n < 0 || n > 40) {
            return -2;
        }
        int no = unlisted();
        return no != 0 ? no
                : (int) from(rankOf(now), false).values().stream().filter(d -> d <= n).count();
    }

    long ways(int n, int rank) {
        if (n < 0 || n > 4) {
            return -2;
        }
        int no = unlisted(rank);
        if (no != 0) {
            return no;
        }
        Map<Integer, Long> rowsTo = new HashMap<>();
        rowsTo.put(rankOf(now), 1L);
        for (int i = 0; i < n; i++) {
            Map<Integer, Long> next = new HashMap<>();
            for (Map.Entry<Integer, Long> e : rowsTo.entrySet()) {
                for (int[][] t : choices(fiber().get(e.getKey()))) {
                    next.merge(t == null ? e.getKey() : rankOf(t), e.getValue(), Long::sum);
                }
            }
            rowsTo = next;
        }
        return rowsTo.getOrDefault(rank, 0L);
    }

    // draws and acts

    long drawn(int word) {
        if (told == null || word < 0 || word > 1_073_741_823) {
            return -2;
        }
        long all = fiber().size();
        return word < evenly() * all ? word % all : -1;
    }

    int evenly() {
        return told == null ? -2 : 1_073_741_824 / fiber().size();
    }

    int swap(int r, int s, int c, int d) {
        if (!has(r, c) || !has(s, d) || r == s || c == d) {
            return -2;
        }
        int[][] other = swapped(now, r, s, c, d);
        if (other == null || past.size() == 20) {
            return -5;
        }
        past.add(now);
        now = other;
        return 0;
    }

    private BigInteger x;

    private int draw(int m) {
        x = x.multiply(BigInteger.valueOf(1103515245)).add(BigInteger.valueOf(12345))
                .mod(BigInteger.TWO.pow(31));
        return x.divide(BigInteger.valueOf(65536)).mod(BigInteger.valueOf(m)).intValue();
    }

    int walk(int n, int seed) {
        if (told == null || n < 1 || n > 1000 || seed < 0 || seed > 2_000_000_000) {
            return -2;
        }
        if (past.size() == 20) {
            return -5;
        }
        past.add(now);
        x = BigInteger.valueOf(seed);
        int done = 0;
        for (int i = 0; i < n; i++) {
            int r = draw(rows);
            int s = draw(rows - 1);
            s += s >= r ? 1 : 0;
            int c = draw(columns);
            int d = draw(columns - 1);
            d += d >= c ? 1 : 0;
            int[][] other = swapped(now, r, s, c, d);
            if (other != null) {
                now = other;
                done++;
            }
        }
        return done;
    }

    int undo() {
        if (told == null) {
            return -2;
        }
        if (past.isEmpty()) {
            return -5;
        }
        now = past.remove(past.size() - 1);
        return past.size();
    }

    int anew() {
        if (told == null) {
            return -2;
        }
        int taken = past.size();
        if (taken > 0) {
            now = past.get(0);
            past.clear();
        }
        return taken;
    }
}
