import java.util.Random;
import java.util.zip.CRC32;

/**
 * Runs of mixed calls, with their damage, beside a plain model of the document; the seed is fixed, so that
 * every run is the same each time. The model keeps blocks apart, keeps entries as objects read anew at every
 * call, and takes its sums from the Java library, in order to share no slip with the program.
 */
public final class ModelTest {
    private static final int RUNS = 1000;
    private static final int CALLS = 460;
    private static final int LOOK_EVERY = 230;

    private final Random random;
    private final int run;
    private final TwinTables x;
    private final Model model;
    private final int n;
    private final int calm;

    private ModelTest(int run) {
        this.run = run;
        random = new Random(run);
        int blocks = 10 + random.nextInt(17);
        x = new TwinTables(blocks);
        model = new Model(blocks);
        n = model.n;
        calm = 1 + random.nextInt(12);
    }

    public static void main(String[] args) {
        for (int run = 0; run < RUNS; run++) {
            String fault = new ModelTest(run).firstFault();
            if (fault != null) {
                System.out.println(fault);
                System.exit(1);
            }
        }
        System.out.println("all " + RUNS + " runs are like the model's");
    }

    private String firstFault() {
        x.format(run);
        model.format(run);
        for (int k = 0; k < CALLS; k++) {
            String fault = random.nextInt(12) < calm ? ordinaryCall() : damagingCall();
            if (fault != null) {
                return "run " + run + ", call " + k + ": " + fault;
            }
            if (k % LOOK_EVERY == LOOK_EVERY - 1) {
                for (int b = 0; b < n; b++) {
                    if (x.sum(b, 0, 512) != model.sum(b, 0, 512)) {
                        return "run " + run + ", behind call " + k + ": block " + b + " is another";
                    }
                }
            }
        }
        return null;
    }

    private static String due(String call, long got, long want) {
        return got == want ? null : call + " answered " + got + ", due is " + want;
    }

    private static long bit(boolean b) {
        return b ? 1 : 0;
    }

    private int near(int low, int high) {
        return low - 1 + random.nextInt(high - low + 3);
    }

    private String ordinaryCall() {
        int i = random.nextInt(4) == 0 ? near(0, 7) : random.nextInt(5);
        int first = random.nextInt(8) == 0 ? near(3, n - 3) : 4 + random.nextInt(n - 7);
        int last = random.nextInt(8) == 0 ? near(3, n - 3) : Math.min(first + random.nextInt(3), n - 4);
        int k = random.nextInt(3) == 0 ? near(0, 35) : random.nextInt(3);
        char c = (char) random.nextInt(65536);
        long type = random.nextInt(4);
        long mark = random.nextInt(9) - 1;
        long attributes = random.nextLong();
        int what = near(0, 6);
        switch (random.nextInt(16)) {
            case 0: case 1: case 2:
                return due("make(" + first + ", " + last + ", " + type + ", " + mark + ", " + attributes + ")",
                    x.make(first, last, type, mark, attributes), model.make(first, last, type, mark, attributes));
            case 3: return due("remove(" + i + ")", bit(x.remove(i)), bit(model.remove(i)));
            case 4: case 5: return due("rename(" + i + ", " + k + ")", bit(x.rename(i, k, c)), bit(model.rename(i, k, c)));
            case 6: case 7: return due("move(" + i + ", " + first + ", " + last + ")",
                bit(x.move(i, first, last)), bit(model.move(i, first, last)));
            case 8: return due("repair()", x.repair(), model.repair());
            case 9: return due("count()", x.count(), model.count());
            case 10: return due("field(" + i + ", " + what + ")", x.field(i, what), model.field(i, what));
            case 11: return due("letter(" + i + ", " + k + ")", x.letter(i, k), model.letter(i, k));
            case 12: return due("room()", x.room(), model.room());
            case 13: return due("guard()", bit(x.guard()), bit(model.guard()));
            case 14: return due("source()", x.source(), model.source());
            default: {
                int copy = near(0, 1);
                return due("fault(" + copy + ")", x.fault(copy), model.fault(copy));
            }
        }
    }

    private String damagingCall() {
        int copy = random.nextInt(20) == 0 ? near(0, 1) : random.nextInt(2);
        switch (random.nextInt(8)) {
            case 0: case 1: case 2: return due("seal(" + copy + ")", bit(x.seal(copy)), bit(model.seal(copy)));
            case 3: return due("fault(" + copy + ")", x.fault(copy), model.fault(copy));
            case 4: return lookCall();
            case 5: return headerPoke(copy);
            case 6: return arrayPoke(copy);
            default: return random.nextInt(6) == 0 ? formatCall() : anyPoke();
        }
    }

    private String formatCall() {
        long disk = random.nextInt(3);
        x.format(disk);
        model.format(disk);
        return null;
    }

    private String lookCall() {
        int block = near(0, n - 1);
        int place = random.nextInt(2) == 0 ? near(0, 512) : random.nextInt(512);
        int many = random.nextInt(2) == 0 ? near(0, 512) : random.nextInt(40);
        return random.nextBoolean()
            ? due("peek(" + block + ", " + place + ")", x.peek(block, place), model.peek(block, place))
            : due("sum(" + block + ", " + place + ", " + many + ")",
                x.sum(block, place, many), model.sum(block, place, many));
    }

    private String headerPoke(int copy) {
        int block = copy == 0 ? 1 : n - 1;
        int place = random.nextInt(100);
        // The right byte, often, because else no copy would be sound for long.
        int v = random.nextInt(3) == 0 ? random.nextInt() : model.freshHeaderByte(copy, place);
        return poke(block, place, v);
    }

    private String arrayPoke(int copy) {
        int[] places = {0, 15, 16, 24, 31, 32, 33, 39, 40, 41, 47, 48, 56, 127};
        int at = random.nextInt(8) * 128 + places[random.nextInt(places.length)];
        int block = (copy == 0 ? 2 : n - 3) + at / 512;
        return poke(block, at % 512, random.nextInt(4) == 0 ? random.nextInt() : random.nextInt(n));
    }

    private String anyPoke() {
        int[] places = {0, 445, 446, 449, 450, 451, 454, 457, 458, 461, 462, 509, 510, 511, 512, -1};
        int place = places[random.nextInt(places.length)];
        return poke(random.nextInt(3) == 0 ? near(0, n - 1) : 0, place, random.nextInt(512));
    }

    private String poke(int block, int place, int v) {
        return due("poke(" + block + ", " + place + ", " + v + ")",
            bit(x.poke(block, place, v)), bit(model.poke(block, place, v)));
    }

    /** What an array says in one of its entries. */
    private record Part(boolean free, long first, long last, long attributes, long type, long typeTail,
                        long mark, long markTail) {
        boolean has(long block) {
            return !free && first <= block && block <= last;
        }
    }

    private static final class Model {
        private final int n;
        private int[][] disk;

        Model(int blocks) {
            n = 12 <= blocks && blocks <= 24 ? blocks : 16;
            disk = new int[n][512];
        }

        static int header(int copy, int n) {
            return copy == 0 ? 1 : n - 1;
        }

        static int array(int copy, int n) {
            return copy == 0 ? 2 : n - 3;
        }

        boolean isByte(int block, int place) {
            return 0 <= block && block < n && 0 <= place && place < 512;
        }

        int peek(int block, int place) {
            return isByte(block, place) ? disk[block][place] : -1;
        }

        boolean poke(int block, int place, int v) {
            if (isByte(block, place)) {
                disk[block][place] = v & 255;
            }
            return isByte(block, place);
        }

        int sum(int block, int place, int many) {
            if (block < 0 || block >= n || place < 0 || many < 0 || (long) place + many > 512) {
                return 0;
            }
            CRC32 crc = new CRC32();
            for (int k = place; k < place + many; k++) {
                crc.update(disk[block][k]);
            }
            return (int) crc.getValue();
        }

        long get(int block, int place, int size) {
            long value = 0;
            long weight = 1;
            for (int k = 0; k < size; k++, weight *= 256) {
                value += disk[block][place + k] * weight;
            }
            return value;
        }

        void put(int[] block, int place, int size, long value) {
            long rest = value;
            for (int k = 0; k < size; k++) {
                block[place + k] = (int) Math.floorMod(rest, 256L);
                rest = Math.floorDiv(rest, 256L);
            }
        }

        static long tail(long k) {
            return k * 2862933555777941757L + 3037000493L;
        }

        Part part(int copy, int i) {
            int block = array(copy, n) + i / 4;
            int at = i % 4 * 128;
            long type = get(block, at, 8);
            long typeTail = get(block, at + 8, 8);
            return new Part(type == 0 && typeTail == 0, get(block, at + 32, 8), get(block, at + 40, 8),
                get(block, at + 48, 8), type, typeTail, get(block, at + 16, 8), get(block, at + 24, 8));
        }

        void format(long k) {
            disk[0] = freshGuard();
            int[] empty = new int[1024];
            write(empty, k, tail(k));
        }

        int[] freshGuard() {
            int[] guard = new int[512];
            guard[510] = 85;
            guard[511] = 170;
            guard[446 + 4] = 238;
            put(guard, 446 + 8, 4, 1);
            put(guard, 446 + 12, 4, n - 1);
            return guard;
        }

        void write(int[] entries, long mark, long markTail) {
            for (int copy = 0; copy < 2; copy++) {
                for (int k = 0; k < 1024; k++) {
                    disk[array(copy, n) + k / 512][k % 512] = entries[k];
                }
                disk[header(copy, n)] = freshHeader(copy, mark, markTail);
                seal(copy);
            }
        }

        int[] freshHeader(int copy, long mark, long markTail) {
            int[] h = new int[512];
            String name = "EFI PART";
            for (int k = 0; k < 8; k++) {
                h[k] = name.charAt(k);
            }
            put(h, 8, 4, 65536);
            put(h, 12, 4, 92);
            put(h, 24, 8, header(copy, n));
            put(h, 32, 8, header(1 - copy, n));
            put(h, 40, 8, 4);
            put(h, 48, 8, n - 4);
            put(h, 56, 8, mark);
            put(h, 64, 8, markTail);
            put(h, 72, 8, array(copy, n));
            put(h, 80, 4, 8);
            put(h, 84, 4, 128);
            return h;
        }

        int freshHeaderByte(int copy, int place) {
            return freshHeader(copy, 0, tail(0))[place];
        }

        int arraySum(int copy) {
            CRC32 crc = new CRC32();
            for (int k = 0; k < 1024; k++) {
                crc.update(disk[array(copy, n) + k / 512][k % 512]);
            }
            return (int) crc.getValue();
        }

        int headerSum(int copy) {
            CRC32 crc = new CRC32();
            for (int k = 0; k < 92; k++) {
                crc.update(k >= 16 && k <= 19 ? 0 : disk[header(copy, n)][k]);
            }
            return (int) crc.getValue();
        }

        boolean seal(int copy) {
            if (copy != 0 && copy != 1) {
                return false;
            }
            put(disk[header(copy, n)], 88, 4, arraySum(copy));
            put(disk[header(copy, n)], 16, 4, headerSum(copy));
            return true;
        }

        boolean guard() {
            int[] g = disk[0];
            int others = 0;
            for (int k = 446 + 16; k < 510; k++) {
                others += g[k];
            }
            return g[510] == 85 && g[511] == 170 && g[450] == 238 && get(0, 454, 4) == 1
                && get(0, 458, 4) == n - 1 && others == 0;
        }

        int fault(int copy) {
            if (copy != 0 && copy != 1) {
                return -1;
            }
            int h = header(copy, n);
            int[] fresh = freshHeader(copy, 0, 0);
            int[] faultOfByte = new int[92];
            mark(faultOfByte, 0, 8, 1);
            mark(faultOfByte, 8, 8, 2);
            mark(faultOfByte, 20, 4, 2);
            mark(faultOfByte, 24, 8, 4);
            mark(faultOfByte, 32, 24, 5);
            mark(faultOfByte, 72, 16, 5);
            int least = (int) get(h, 16, 4) == headerSum(copy) ? 8 : 3;
            for (int k = 0; k < 92; k++) {
                if (faultOfByte[k] != 0 && disk[h][k] != fresh[k]) {
                    least = Math.min(least, faultOfByte[k]);
                }
            }
            if (least == 8) {
                least = (int) get(h, 88, 4) != arraySum(copy) ? 6 : badEntries(copy) ? 7 : 0;
            }
            return least;
        }

        static void mark(int[] row, int from, int many, int value) {
            for (int k = from; k < from + many; k++) {
                row[k] = value;
            }
        }

        boolean badEntries(int copy) {
            for (int i = 0; i < 8; i++) {
                Part p = part(copy, i);
                if (!p.free && (p.first < 4 || p.last > n - 4 || p.first > p.last)) {
                    return true;
                }
            }
            for (int i = 0; i < 8; i++) {
                for (int j = 0; j < i; j++) {
                    Part p = part(copy, i);
                    Part q = part(copy, j);
                    if (!p.free && !q.free && p.mark == q.mark && p.markTail == q.markTail) {
                        return true;
                    }
                    for (int b = 0; b < n; b++) {
                        if (p.has(b) && q.has(b)) {
                            return true;
                        }
                    }
                }
            }
            return false;
        }

        int source() {
            return fault(0) == 0 ? 0 : fault(1) == 0 ? 1 : -1;
        }

        int[] entries(int copy) {
            int[] all = new int[1024];
            for (int k = 0; k < 1024; k++) {
                all[k] = disk[array(copy, n) + k / 512][k % 512];
            }
            return all;
        }

        void rewrite(int copy, int[] entries) {
            write(entries, get(header(copy, n), 56, 8), get(header(copy, n), 64, 8));
        }

        boolean overlaps(int copy, int first, int last, int except) {
            for (int i = 0; i < 8; i++) {
                for (int b = first; b <= last && i != except; b++) {
                    if (part(copy, i).has(b)) {
                        return true;
                    }
                }
            }
            return false;
        }

        int make(int first, int last, long type, long mark, long attributes) {
            int copy = source();
            if (copy == -1) {
                return -1;
            }
            if (type == 0) {
                return -2;
            }
            if (first < 4 || last > n - 4 || first > last) {
                return -3;
            }
            if (overlaps(copy, first, last, -1)) {
                return -4;
            }
            int lowest = -6;
            for (int i = 7; i >= 0; i--) {
                Part p = part(copy, i);
                if (!p.free && p.mark == mark && p.markTail == tail(mark)) {
                    return -5;
                }
                lowest = p.free ? i : lowest;
            }
            if (lowest >= 0) {
                int[] all = entries(copy);
                mark(all, lowest * 128, 128, 0);
                long[] fields = {type, tail(type), mark, tail(mark), first, last, attributes};
                for (int k = 0; k < 7; k++) {
                    put(all, lowest * 128 + 8 * k, 8, fields[k]);
                }
                rewrite(copy, all);
            }
            return lowest;
        }

        boolean isUsed(int copy, int i) {
            return copy != -1 && i >= 0 && i < 8 && !part(copy, i).free;
        }

        boolean remove(int i) {
            int copy = source();
            if (!isUsed(copy, i)) {
                return false;
            }
            int[] all = entries(copy);
            mark(all, i * 128, 128, 0);
            rewrite(copy, all);
            return true;
        }

        boolean rename(int i, int k, char c) {
            int copy = source();
            if (!isUsed(copy, i) || k < 0 || k > 35) {
                return false;
            }
            int[] all = entries(copy);
            put(all, i * 128 + 56 + 2 * k, 2, c);
            rewrite(copy, all);
            return true;
        }

        boolean move(int i, int first, int last) {
            int copy = source();
            if (!isUsed(copy, i) || first < 4 || last > n - 4 || first > last || overlaps(copy, first, last, i)) {
                return false;
            }
            int[] all = entries(copy);
            put(all, i * 128 + 32, 8, first);
            put(all, i * 128 + 40, 8, last);
            rewrite(copy, all);
            return true;
        }

        int repair() {
            int copy = source();
            if (copy == -1) {
                return -1;
            }
            int answer = guard() ? 0 : 1;
            answer += fault(0) != 0 ? 2 : 0;
            answer += fault(1) != 0 ? 4 : 0;
            boolean same = java.util.Arrays.equals(entries(0), entries(1))
                && get(1, 56, 8) == get(n - 1, 56, 8) && get(1, 64, 8) == get(n - 1, 64, 8);
            answer += answer < 2 && !same ? 8 : 0;
            if (answer >= 2) {
                rewrite(copy, entries(copy));
            }
            if (answer % 2 == 1) {
                disk[0] = freshGuard();
            }
            return answer;
        }

        int count() {
            int copy = source();
            int many = copy == -1 ? -1 : 0;
            for (int i = 0; i < 8; i++) {
                many += isUsed(copy, i) ? 1 : 0;
            }
            return many;
        }

        long field(int i, int what) {
            int copy = source();
            if (copy == -1 || i < 0 || i > 7 || what < 0 || what > 6) {
                return 0;
            }
            Part p = part(copy, i);
            long[] all = {p.first, p.last, p.attributes, p.type, p.typeTail, p.mark, p.markTail};
            return all[what];
        }

        char letter(int i, int k) {
            int copy = source();
            if (copy == -1 || i < 0 || i > 7 || k < 0 || k > 35) {
                return 0;
            }
            int[] all = entries(copy);
            int at = i * 128 + 56 + 2 * k;
            return (char) (all[at] + 256 * all[at + 1]);
        }

        int room() {
            int copy = source();
            if (copy == -1) {
                return -1;
            }
            int many = 0;
            for (int b = 4; b <= n - 4; b++) {
                many += overlaps(copy, b, b, -1) ? 0 : 1;
            }
            return many;
        }
    }
}
