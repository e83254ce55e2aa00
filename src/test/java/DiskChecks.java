import java.lang.reflect.InvocationTargetException;
import java.lang.reflect.Method;
import java.lang.reflect.Modifier;
import java.math.BigInteger;
import java.nio.ByteBuffer;
import java.nio.ByteOrder;
import java.nio.charset.StandardCharsets;
import java.util.Arrays;
import java.util.Comparator;
import java.util.function.Consumer;
import java.util.function.ToLongFunction;
import java.util.zip.CRC32;

/**
 * What the tests share: the disk as the document tells it, made without the program, and looks at every byte
 * of a disk. No object gets more than 512 calls, since the document promises nothing beyond them.
 */
abstract class DiskChecks {
    static final int NONE = TwinTables.NONE;
    static final int LEAST = Integer.MIN_VALUE, GREATEST = Integer.MAX_VALUE;
    static final int[] EXTREMES = {-1, LEAST, GREATEST};
    /** The last three make k * 2862933555777941757 + 3037000493 wrap around in one way or the other. */
    static final long[] LONGS = {0, 1, -1, Long.MIN_VALUE, Long.MAX_VALUE, 3, 4, -4};
    private static final int[] SIZES = {12, 16, 24};
    /** A disk's bytes are more than the calls that an object has: each object made anew shows so many of them. */
    private static final int PEEKS_EACH = 384;
    private static int wrong = 0;
    private static String test = "";

    // ---- running tests

    /** Every method of a class that takes a number of blocks is a test for each size; one that takes nothing is run once. */
    static void runAll(Class<?> tests) throws IllegalAccessException {
        Method[] methods = tests.getDeclaredMethods();
        Arrays.sort(methods, Comparator.comparing(Method::getName));
        int ran = 0;
        for (Method m : methods) {
            Class<?>[] takes = m.getParameterTypes();
            if (m.isSynthetic() || Modifier.isPrivate(m.getModifiers())) {
                continue;
            }
            if (takes.length == 0) {
                run(m, m.getName());
                ran++;
            } else if (takes.length == 1 && takes[0] == int.class) {
                for (int n : SIZES) {
                    run(m, m.getName() + "(" + n + ")", n);
                }
                ran++;
            }
        }
        test = "";
        end(ran + " tests hold");
    }

    private static void run(Method m, String name, Object... n) throws IllegalAccessException {
        test = name + ": ";
        try {
            m.invoke(null, n);
        } catch (InvocationTargetException e) {
            wrong++;
            System.out.println(test + "threw " + e.getCause());
        }
    }

    static void end(String good) {
        System.out.println(wrong == 0 ? good : wrong + " answers are not as due");
        if (wrong != 0) {
            System.exit(1);
        }
    }

    // ---- what a test says

    static void due(String call, long got, long want) {
        if (got != want) {
            wrong++;
            System.out.println(test + call + " answered " + got + ", due is " + want);
        }
    }

    static void due(String call, boolean got, boolean want) {
        due(call, bit(got), bit(want));
    }

    static long bit(boolean b) {
        return b ? 1 : 0;
    }

    static void dueBytes(String what, byte[] got, byte[] want) {
        int at = Arrays.mismatch(got, want);
        if (at >= 0) {
            wrong++;
            System.out.println(test + "behind " + what + " byte " + at % 512 + " of block " + at / 512 + " is "
                + (got[at] & 255) + ", due is " + (want[at] & 255));
        }
    }

    // ---- parts of a disk

    static ByteBuffer row(int size) {
        return ByteBuffer.allocate(size).order(ByteOrder.LITTLE_ENDIAN);
    }

    static int crc(byte[] bytes) {
        CRC32 crc = new CRC32();
        crc.update(bytes);
        return (int) crc.getValue();
    }

    static long guidTail(long k) {
        BigInteger product = BigInteger.valueOf(k).multiply(new BigInteger("2862933555777941757"));
        return product.add(BigInteger.valueOf(3037000493L)).longValue();
    }

    static byte[] guid(long k) {
        return row(16).putLong(k).putLong(guidTail(k)).array();
    }

    static byte[] guardBlock(int n) {
        return row(512).put(450, (byte) 238).putInt(454, 1).putInt(458, n - 1)
            .put(510, (byte) 85).put(511, (byte) 170).array();
    }

    static int headerOf(int n, int copy) {
        return copy == 0 ? 1 : n - 1;
    }

    static int arrayOf(int n, int copy) {
        return copy == 0 ? 2 : n - 3;
    }

    static byte[] headerBlock(int n, int copy, byte[] mark, byte[] array) {
        ByteBuffer b = row(512);
        b.put("EFI PART".getBytes(StandardCharsets.ISO_8859_1)).putInt(65536).putInt(92).putInt(0).putInt(0);
        b.putLong(headerOf(n, copy)).putLong(headerOf(n, 1 - copy)).putLong(4).putLong(n - 4).put(mark);
        b.putLong(arrayOf(n, copy)).putInt(8).putInt(128).putInt(crc(array));
        return b.putInt(16, crc(Arrays.copyOf(b.array(), 92))).array();
    }

    static byte[] entry(long first, long last, long type, long mark, long attributes, String name) {
        ByteBuffer b = row(128).put(guid(type)).put(guid(mark)).putLong(first).putLong(last).putLong(attributes);
        for (int k = 0; k < name.length(); k++) {
            b.putChar(name.charAt(k));
        }
        return b.array();
    }

    static byte[] array(byte[]... entries) {
        ByteBuffer b = row(1024);
        for (byte[] e : entries) {
            b.put(e);
        }
        return b.array();
    }

    static byte[] withEntry(byte[] array, int i, byte[] entry) {
        byte[] other = array.clone();
        System.arraycopy(entry, 0, other, i * 128, 128);
        return other;
    }

    static byte[] entryIn(byte[] array, int i) {
        return Arrays.copyOfRange(array, i * 128, i * 128 + 128);
    }

    // ---- whole disks

    static byte[] withBlock(byte[] disk, int block, byte[] bytes) {
        byte[] other = disk.clone();
        System.arraycopy(bytes, 0, other, block * 512, bytes.length);
        return other;
    }

    /** The disk behind the writing of a table. */
    static byte[] written(byte[] disk, byte[] mark, byte[] array) {
        int n = disk.length / 512;
        byte[] other = disk;
        for (int copy = 0; copy < 2; copy++) {
            other = withBlock(other, headerOf(n, copy), headerBlock(n, copy, mark, array));
            other = withBlock(other, arrayOf(n, copy), array);
        }
        return other;
    }

    static byte[] emptyTable(int n, long disk) {
        return written(withBlock(new byte[n * 512], 0, guardBlock(n)), guid(disk), new byte[1024]);
    }

    /** Every byte of the disk behind some calls, which are at most 128. */
    static byte[] bytesBehind(int n, Consumer<TwinTables> calls) {
        byte[] all = new byte[n * 512];
        TwinTables x = null;
        for (int at = 0; at < all.length; at++) {
            if (at % PEEKS_EACH == 0) {
                x = new TwinTables(n);
                calls.accept(x);
            }
            all[at] = (byte) x.peek(at / 512, at % 512);
        }
        return all;
    }

    static TwinTables formatted(int n) {
        TwinTables x = new TwinTables(n);
        x.format(77);
        return x;
    }

    // ---- disks that show what a call must not touch

    /**
     * Disks with a bad guard, bytes of no matter in block 0 and both headers, bytes in the usable blocks, and a
     * table with partitions in its first and its last entry and a free entry full of bytes. Any byte that a
     * call writes without need, or does not write though it must, is seen on them; and so is a call that takes
     * the bytes before or behind an array for an entry, since they look like a partition in block 5.
     */
    enum Worn {
        /** Both copies are sound and differ: the table is that of copy 0. */
        FRONT,
        /** Copy 0 is not sound: the table is that of copy 1. */
        BACK,
        /** Neither copy is sound. */
        LOST;

        static final Worn[] WITH_TABLE = {FRONT, BACK};
        static final int FREE_ENTRY = 3;

        int copy() {
            return this == BACK ? 1 : 0;
        }

        byte[] mark() {
            byte[] mark = guid(77);
            mark[15] ^= 64;
            return mark;
        }

        byte[] array(int n) {
            byte[] none = new byte[128];
            byte[] free = entry(4, n - 4, 1, 9, -1, "in use once");
            Arrays.fill(free, 0, 16, (byte) 0);
            ByteBuffer last = row(128).put(15, (byte) 7).put(16, (byte) 5).put(31, (byte) 6)
                .putLong(32, n - 4).putLong(40, n - 4).putLong(48, Long.MIN_VALUE).putChar(126, (char) 0xfedc);
            return DiskChecks.array(entry(4, 4, 1, 2, 3, "a"), none, none, free, none, none, none, last.array());
        }

        void wear(TwinTables x) {
            int n = x.blocks();
            int header = headerOf(n, copy());
            x.format(77);
            x.make(4, 4, 1, 2, 3);
            x.rename(0, 0, 'a');
            pokeNonZero(x, arrayOf(n, copy()), entryIn(array(n), FREE_ENTRY), FREE_ENTRY * 128);
            pokeNonZero(x, arrayOf(n, copy()) + 1, entryIn(array(n), 7), 384);
            x.poke(header, 71, mark()[15]);
            x.seal(copy());
            for (int[] p : junk(n)) {
                x.poke(p[0], p[1], p[2]);
            }
        }

        private int[][] junk(int n) {
            int[] guard = {0, 510, 1};
            int[] front = this == BACK ? new int[] {1, 0, 70} : this == LOST ? new int[] {2, 127, 9} : guard;
            int[] back = this == LOST ? new int[] {n - 1, 60, 44} : guard;
            return new int[][] {guard, front, back, {0, 0, 50}, {0, 449, 51}, {0, 453, 52}, {1, 92, 53}, {1, 511, 54},
                {n - 1, 92, 55}, {n - 1, 511, 56}, {5, 511, 57}, {n - 4, 511, 58},
                {1, 384, 59}, {1, 416, 5}, {1, 424, 5}, {4, 0, 60}, {4, 32, 5}, {4, 40, 5},
                {n - 4, 384, 61}, {n - 4, 416, 5}, {n - 4, 424, 5}};
        }

        byte[] bytes(int n) {
            byte[] first = DiskChecks.array(entry(4, 4, 1, 2, 3, "a"));
            byte[] disk = written(withBlock(new byte[n * 512], 0, guardBlock(n)), guid(77), first);
            disk = withBlock(disk, arrayOf(n, copy()), array(n));
            disk = withBlock(disk, headerOf(n, copy()), headerBlock(n, copy(), mark(), array(n)));
            for (int[] p : junk(n)) {
                disk[p[0] * 512 + p[1]] = (byte) p[2];
            }
            return disk;
        }

        TwinTables disk(int n) {
            TwinTables x = new TwinTables(n);
            wear(x);
            return x;
        }
    }

    /** A call on a worn disk must answer so and leave every byte. */
    static void dueRefused(String call, int n, Worn state, ToLongFunction<TwinTables> made, long answer) {
        due(call + " on " + state, made.applyAsLong(state.disk(n)), answer);
        byte[] got = bytesBehind(n, x -> {
            state.wear(x);
            made.applyAsLong(x);
        });
        dueBytes(call + " on " + state, got, state.bytes(n));
    }

    /** A call on a worn disk must answer so and write this array into both copies, and nothing else. */
    static void dueWritten(String call, int n, Worn state, ToLongFunction<TwinTables> made, long answer, byte[] array) {
        due(call + " on " + state, made.applyAsLong(state.disk(n)), answer);
        byte[] got = bytesBehind(n, x -> {
            state.wear(x);
            made.applyAsLong(x);
        });
        dueBytes(call + " on " + state, got, written(state.bytes(n), state.mark(), array));
    }

    // ---- changing bytes

    static void pokeNumber(TwinTables x, int block, int place, int size, long value) {
        for (int k = 0; k < size; k++) {
            x.poke(block, place + k, (int) (value >>> (8 * k)));
        }
    }

    static void pokeNonZero(TwinTables x, int block, byte[] bytes, int place) {
        for (int k = 0; k < bytes.length; k++) {
            if (bytes[k] != 0) {
                x.poke(block, place + k, bytes[k]);
            }
        }
    }

    static void flip(TwinTables x, int block, int place) {
        flip(x, block, place, 1);
    }

    static void flip(TwinTables x, int block, int place, int bits) {
        x.poke(block, place, x.peek(block, place) ^ bits);
    }
}
