import java.util.ArrayList;
import java.util.Collections;
import java.util.List;
import java.util.Random;

/** Runs of calls by a fixed seed, held against the model: every call, sound and wrong arguments. */
public final class ModelTest {
    private static final int CALLS = 42;
    private static final int[] EDGES = {
        -1, 0, 1, 2, 3, 4, 5, 7, 20, 21, 40, 41, 999, 1000, 1001, 1073741823, 1073741824,
        2000000000, 2000000001, Integer.MAX_VALUE, Integer.MIN_VALUE,
    };

    public static void main(String[] args) {
        int wrong = 0;
        for (int seed = 0; seed < 700; seed++) {
            wrong += run(new Random(seed), 1 + seed % 20, 300);
        }
        for (int seed = 0; seed < 12; seed++) {
            wrong += run(new Random(1000 + seed), 20, 40);
        }
        wrong += everyCell(new Random(7));
        wrong += largestLists();
        for (int seed = 0; seed < 1500; seed++) {
            wrong += turning(new Random(seed));
        }
        if (wrong != 0) {
            System.out.println(wrong + " answers are not the model's");
            System.exit(1);
        }
    }

    private static int run(Random random, int total, int calls) {
        Pair pair = new Pair();
        boolean big = calls < 100;
        pair.tell(text(random, total, big));
        while (pair.calls < calls) {
            if (random.nextInt(60) == 0) {
                pair.tell(text(random, total, big));
            }
            // the tape's own calls would spoil the next text
            int which = 3 + random.nextInt(CALLS - 3);
            long limit = Math.max(1, pair.tables());
            pair.call(which, argument(random, which, limit), small(random, limit), small(random, limit),
                    small(random, limit));
        }
        return pair.wrong;
    }

    private static long argument(Random random, int which, long tables) {
        boolean byRank = which == 11 || which >= 29 && which <= 31;
        if (byRank && random.nextInt(4) > 0) {
            return random.nextInt((int) tables);
        }
        boolean byWord = which == 36 && random.nextBoolean();
        if (byWord) {
            return (1 << 30) - 1 - random.nextInt((int) tables + 2);
        }
        if (which == 11 && random.nextInt(4) == 0) {
            return random.nextLong();
        }
        return small(random, tables);
    }

    private static int small(Random random, long tables) {
        switch (random.nextInt(12)) {
            case 0:
                return EDGES[random.nextInt(EDGES.length)];
            case 1:
                return random.nextInt((int) tables + 1);
            default:
                return random.nextInt(4);
        }
    }

    /** A sound text: few cells that are not nought, holes among the others. */
    private static String text(Random random, int total, boolean big) {
        int rows = big ? 4 : 2 + random.nextInt(3);
        int columns = big ? 4 : 2 + random.nextInt(3);
        int[][] cells = new int[rows][columns];
        int spread = big ? 16 : 1 + random.nextInt(rows * columns);
        int left = big || rows * columns <= 9 ? total : Math.min(total, 3 + random.nextInt(9));
        for (int i = 0; i < left; i++) {
            int k = random.nextInt(spread) * 7 % (rows * columns);
            if (cells[k / columns][k % columns] < 9) {
                cells[k / columns][k % columns]++;
            }
        }
        StringBuilder text = new StringBuilder(Texts.of(cells));
        int chance = big ? 12 : 2 + random.nextInt(8);
        for (int y = 0; y < rows; y++) {
            for (int x = 0; x < columns; x++) {
                if (cells[y][x] == 0 && random.nextInt(chance) == 0 && text.length() < 280) {
                    text.append("hole ").append(y).append(' ').append(x).append(";");
                }
            }
        }
        return text.toString();
    }

    /** Whole small fibers: each rank, each cell, each pair. */
    private static int everyCell(Random random) {
        int wrong = 0;
        for (int i = 0; i < 60; i++) {
            Pair pair = new Pair();
            pair.tell(text(random, 2 + random.nextInt(8), false));
            int tables = (int) Math.min(12, pair.tables());
            for (int y = 0; y < 4; y++) {
                for (int x = 0; x < 4; x++) {
                    for (int which : new int[] {5, 6, 12, 13, 25}) {
                        pair.call(which, y, x, 0, 0);
                    }
                    for (int v = -1; v < 22; v++) {
                        pair.call(15, y, x, v, 0);
                    }
                    for (int rank = 0; rank < tables; rank++) {
                        pair.call(11, rank, y, x, 0);
                    }
                }
            }
            for (int rank = -1; rank <= tables; rank++) {
                for (int other = -1; other <= tables; other++) {
                    pair.call(31, rank, other, 0, 0);
                }
            }
            wrong += pair.wrong;
        }
        return wrong;
    }

    /** Fibers of 996 and of just 1,000 tables: ranks far back, and first cells above 7. */
    private static int largestLists() {
        String[] texts = {
            "table rows 4 columns 4;row 4 1 0 0;row 4 0 1 0;row 3 0 1 1;row 3 1 0 1;",
            "table rows 4 columns 4;row 0 2 1 1;row 0 0 0 2;row 1 1 1 1;row 2 0 1 1;hole 1 1;hole 1 2;",
            "table rows 3 columns 3;row 9 1 1;row 2 0 1;row 2 1 0;",
        };
        int wrong = 0;
        for (String text : texts) {
            Pair pair = new Pair();
            pair.tell(text);
            for (int which = 3; which < CALLS; which++) {
                for (int a : new int[] {0, 1, 500, 995, 999, 1000}) {
                    pair.call(which, a, Math.min(4, a), 2, 1);
                }
            }
            wrong += pair.wrong;
        }
        return wrong;
    }

    /**
     * Free cells in a ring through all rows and columns, few others: swaps do not do, turns do in
     * a ring of three or beside one free cell more, and neither does in a ring of four.
     */
    private static int turning(Random random) {
        int side = 3 + random.nextInt(2);
        List<Integer> rows = shuffled(random, side);
        List<Integer> columns = shuffled(random, side);
        int[][] cells = new int[side][side];
        boolean[][] free = new boolean[side][side];
        for (int i = 0; i < side; i++) {
            for (int k = 0; k < 2; k++) {
                int y = rows.get(i);
                int x = columns.get((i + k) % side);
                free[y][x] = true;
                cells[y][x] = random.nextInt(3);
            }
        }
        StringBuilder text = new StringBuilder(Texts.of(cells));
        int chance = random.nextInt(40);
        for (int k = 0; k < side * side; k++) {
            if (!free[k / side][k % side] && random.nextInt(100) >= chance) {
                text.append("hole ").append(k / side).append(' ').append(k % side).append(';');
            }
        }
        Pair pair = new Pair();
        pair.tell(text.toString());
        for (int which = 27; which <= 34; which++) {
            for (int rank = 0; rank < Math.min(20, pair.tables()); rank++) {
                pair.call(which, rank, 0, 0, 0);
            }
        }
        return pair.wrong;
    }

    private static List<Integer> shuffled(Random random, int side) {
        List<Integer> all = new ArrayList<>();
        for (int i = 0; i < side; i++) {
            all.add(i);
        }
        Collections.shuffle(all, random);
        return all;
    }
}
