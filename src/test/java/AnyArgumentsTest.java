import java.util.Random;
import java.util.function.Consumer;

/**
 * No call throws for any arguments in any state, and none answers what the document has no place for: every call
 * gets the least, the greatest and the numbers round every edge, on new, whole, worn, lost and senseless disks.
 */
public final class AnyArgumentsTest extends DiskChecks {
    private static final int MOST_CALLS = 500;
    private static final long[] WIDE = {0, 1, -1, Long.MIN_VALUE, Long.MAX_VALUE};

    /** A disk that is made anew before its calls are used up. */
    private static final class Endless {
        private final int n;
        private final Consumer<TwinTables> state;
        private final int stateCalls;
        private TwinTables x;
        private int left;

        Endless(int n, Consumer<TwinTables> state, int stateCalls) {
            this.n = n;
            this.state = state;
            this.stateCalls = stateCalls;
        }

        TwinTables next() {
            if (left == 0) {
                x = new TwinTables(n);
                state.accept(x);
                left = MOST_CALLS - stateCalls;
            }
            left--;
            return x;
        }
    }

    public static void main(String[] args) throws IllegalAccessException {
        runAll(AnyArgumentsTest.class);
    }

    private static int[] edges(int n) {
        return new int[] {LEAST, LEAST + 1, -513, -512, -1, 0, 1, 3, 4, 5, 7, 8, 11, 12,
            n - 4, n - 3, n - 1, n, n + 1, 35, 36, 511, 512, 513, 1 << 22, 1 << 23, GREATEST - 511, GREATEST};
    }

    private static void senseless(TwinTables x, int seed) {
        Random random = new Random(seed);
        int n = x.blocks();
        for (int k = 0; k < 300; k++) {
            x.poke(random.nextInt(n), random.nextInt(512), random.nextInt());
        }
    }

    /** Both copies have right sums, and entries whose FIRST and LAST are far out. */
    private static void senselessEntries(TwinTables x) {
        x.format(1);
        int n = x.blocks();
        for (int copy = 0; copy < 2; copy++) {
            for (int i = 0; i < 8; i++) {
                for (int k = 0; k < 16; k++) {
                    x.poke(arrayOf(n, copy) + i / 4, i % 4 * 128 + 32 + k, 255 - k);
                }
                x.poke(arrayOf(n, copy) + i / 4, i % 4 * 128, 1);
            }
            x.seal(copy);
        }
    }

    static void newDisk(int n) {
        callAll(new Endless(n, x -> { }, 0), n);
    }

    static void emptyTable(int n) {
        callAll(new Endless(n, x -> x.format(9), 1), n);
    }

    static void wornDisks(int n) {
        for (Worn state : Worn.values()) {
            callAll(new Endless(n, state::wear, 100), n);
        }
    }

    static void senselessDisks(int n) {
        for (int seed = 0; seed < 3; seed++) {
            int chosen = seed;
            callAll(new Endless(n, x -> senseless(x, chosen), 301), n);
        }
    }

    static void senselessDiskThatWasFormatted(int n) {
        callAll(new Endless(n, x -> {
            senseless(x, 5);
            x.format(5);
        }, 302), n);
    }

    static void senselessTables(int n) {
        callAll(new Endless(n, AnyArgumentsTest::senselessEntries, 280), n);
    }

    static void anyNumberOfBlocks() {
        for (int n : edges(16)) {
            int blocks = new TwinTables(n).blocks();
            due("blocks() of " + n, blocks, n >= 12 && n <= 24 ? n : 16);
        }
    }

    private static void callAll(Endless disk, int n) {
        callWithOne(disk, n);
        callWithTwo(disk, n);
        callWithThree(disk, n);
        due("blocks()", disk.next().blocks(), n);
    }

    private static void callWithOne(Endless disk, int n) {
        for (int a : edges(n)) {
            boolean copy = a == 0 || a == 1;
            due("seal(" + a + ")", disk.next().seal(a), copy);
            int fault = disk.next().fault(a);
            due("whether fault(" + a + ") is told", fault >= 0 && fault <= 7, copy);
            due("whether fault(" + a + ") is NONE", fault == NONE, !copy);
            boolean removed = disk.next().remove(a);
            due("whether remove(" + a + ") is right", !removed || a >= 0 && a < 8, true);
        }
    }

    private static void callWithTwo(Endless disk, int n) {
        for (int a : edges(n)) {
            for (int b : edges(n)) {
                boolean place = a >= 0 && a < n && b >= 0 && b < 512;
                due("whether peek(" + a + ", " + b + ") is a byte", disk.next().peek(a, b) != NONE, place);
                boolean entry = a >= 0 && a < 8;
                long field = disk.next().field(a, b);
                due("whether field(" + a + ", " + b + ") is right", field == 0 || entry && b >= 0 && b < 7, true);
                char letter = disk.next().letter(a, b);
                due("whether letter(" + a + ", " + b + ") is right", letter == 0 || entry && b >= 0 && b < 36, true);
                boolean renamed = disk.next().rename(a, b, (char) (a + b));
                due("whether rename(" + a + ", " + b + ") is right", !renamed || entry && b >= 0 && b < 36, true);
            }
        }
    }

    private static void callWithThree(Endless disk, int n) {
        int many = 0;
        for (int a : edges(n)) {
            for (int b : edges(n)) {
                boolean range = a >= 4 && b <= n - 4 && a <= b;
                for (int c : edges(n)) {
                    int sum = disk.next().sum(a, b, c);
                    boolean part = a >= 0 && a < n && b >= 0 && b <= 512 && c > 0 && c <= 512 - b;
                    due("whether sum(" + a + ", " + b + ", " + c + ") is right", sum == 0 || part, true);
                    boolean moved = disk.next().move(c, a, b);
                    due("whether move(" + c + ", " + a + ", " + b + ") is right", !moved || range && c >= 0 && c < 8, true);
                }
                long wide = WIDE[many++ % WIDE.length];
                int made = disk.next().make(a, b, wide, wide, wide);
                due("whether make(" + a + ", " + b + ") is right", made >= -6 && made < (range && wide != 0 ? 8 : 0), true);
                int repaired = disk.next().repair();
                due("whether repair() is right", repaired >= NONE && repaired <= 9, true);
            }
            due("whether count() is right", Math.abs(disk.next().count()) <= 8, true);
            due("whether room() is right", disk.next().room() <= n - 7, true);
            due("whether source() is right", Math.abs(disk.next().source()) <= 1, true);
            disk.next().guard();
        }
        for (int a : edges(n)) {
            for (int b : edges(n)) {
                due("poke(" + a + ", " + b + ")", disk.next().poke(a, b, a ^ b), a >= 0 && a < n && b >= 0 && b < 512);
            }
        }
    }
}
