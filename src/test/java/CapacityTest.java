import java.util.Arrays;

/**
 * The fibers that need the most room inside: without holes all weights together are the ways to
 * lay TOTAL out into the columns, and a table turned over has as many in its fiber.
 */
public final class CapacityTest {
    private static final int[][] COLUMNS = {
        {5, 5, 5, 5}, {6, 5, 5, 4}, {7, 7, 6, 0}, {6, 7, 7, 0}, {7, 6, 0, 7}, {1, 6, 6, 7}, {8, 4, 4, 4},
    };

    private static int tried = 0;
    private static int wrong = 0;

    public static void main(String[] args) {
        for (int a = 0; a <= 20; a++) {
            for (int b = 0; a + b <= 20; b++) {
                for (int c = 0; a + b + c <= 20; c++) {
                    for (int[] columns : COLUMNS) {
                        check(new int[] {a, b, c, 20 - a - b - c}, columns);
                    }
                }
            }
        }
        if (wrong != 0 || tried < 10000) {
            System.out.println(wrong + " wrong of " + tried);
            System.exit(1);
        }
    }

    private static void check(int[] rows, int[] columns) {
        int[][] cells = fill(rows, columns);
        if (cells == null) {
            return;
        }
        tried++;
        CountTables x = told(cells);
        CountTables over = told(turnedOver(cells));
        long all = ways(columns);
        if (x.weights() != all || over.weights() != ways(rows) || x.tables() != over.tables()) {
            wrong++;
            System.out.println(Arrays.toString(rows) + Arrays.toString(columns)
                    + ": weights " + x.weights() + ", due is " + all);
        }
        if (over.cell(0, 1) != x.cell(1, 0) || x.of(x.rank(), 0, 0) != x.cell(0, 0)) {
            wrong++;
            System.out.println("rank() and of() do not agree");
        }
    }

    /** A table of these sums with cells up to 9; null if the plain way finds none. */
    private static int[][] fill(int[] rows, int[] columns) {
        int[][] cells = new int[4][4];
        int[] left = columns.clone();
        for (int y = 0; y < 4; y++) {
            int more = rows[y];
            for (int x = 0; x < 4; x++) {
                cells[y][x] = Math.min(9, Math.min(more, left[x]));
                more -= cells[y][x];
                left[x] -= cells[y][x];
            }
            if (more != 0) {
                return null;
            }
        }
        return cells;
    }

    private static int[][] turnedOver(int[][] cells) {
        int[][] over = new int[4][4];
        for (int k = 0; k < 16; k++) {
            over[k % 4][k / 4] = cells[k / 4][k % 4];
        }
        return over;
    }

    private static long ways(int[] sums) {
        long ways = 2432902008176640000L;
        for (int sum : sums) {
            for (int i = 2; i <= sum; i++) {
                ways /= i;
            }
        }
        return ways;
    }

    private static CountTables told(int[][] cells) {
        CountTables x = new CountTables();
        Texts.feed(x, Texts.of(cells));
        x.table();
        return x;
    }
}
