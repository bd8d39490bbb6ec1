import java.lang.management.ManagementFactory;

/** A whole run of 512 dear calls makes little: all that a run makes lives in one room. */
public final class RoomTest {
    /** In bytes: no more than some 500,000 elements of four. */
    private static final long MOST = 2_000_000;

    private static final String[] TEXTS = {
        "table rows 4 columns 4;row 2 1 1 1;row 1 2 1 1;row 1 1 2 1;row 1 1 1 2;",
        "table rows 4 columns 4;row 4 1 0 0;row 4 0 1 0;row 3 0 1 1;row 3 1 0 1;",
        "table rows 4 columns 4;row 0 2 1 1;row 0 0 0 2;row 1 1 1 1;row 2 0 1 1;hole 1 1;hole 1 2;",
    };

    public static void main(String[] args) {
        com.sun.management.ThreadMXBean threads =
                (com.sun.management.ThreadMXBean) ManagementFactory.getThreadMXBean();
        int[][][] words = new int[TEXTS.length][][];
        for (int i = 0; i < TEXTS.length; i++) {
            words[i] = Texts.words(TEXTS[i]);
        }
        run(words);
        long before = threads.getCurrentThreadAllocatedBytes();
        long sum = run(words);
        long made = threads.getCurrentThreadAllocatedBytes() - before;
        if (made > MOST || sum == 0) {
            System.out.println("a run made " + made + " bytes, at most " + MOST + " are due");
            System.exit(1);
        }
    }

    private static long run(int[][][] words) {
        CountTables x = new CountTables();
        long sum = 0;
        int[] apart = new int[words.length];
        for (int calls = 0; calls + 26 <= 512; calls += 26) {
            int text = calls / 26 % words.length;
            Texts.feed(x, words[text], TEXTS[text].length());
            sum += x.table() + x.walk(1000, calls) + x.extreme(0) + x.extreme(1) + x.extreme(2);
            sum += x.share(3, 0) + x.heaviest() + x.lightest() + x.classes() + x.joined();
            sum += x.far() + x.ways(4, calls) + x.apart(calls, 3 * calls % 900) + x.farthest();
            sum += x.of(calls, 0, 0) + x.mean(1, 1, 0);
            int now = x.apart(0, 990);
            if (calls >= 26 * words.length && now != apart[text]) {
                throw new IllegalStateException("a text told again has other distances");
            }
            apart[text] = now;
        }
        return sum;
    }
}
