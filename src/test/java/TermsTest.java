import java.util.Arrays;

/**
 * The sentences of the document's "Terms" that name an edge, each by a test of its own, on disks of 12, 16 and
 * 24 blocks.
 */
public final class TermsTest extends DiskChecks {
    private static final int[] CHANGES = {1, 128, 255};

    public static void main(String[] args) throws IllegalAccessException {
        runAll(TermsTest.class);
    }

    // ---- the disk, its fields and its sums

    static void diskIsAllZeroAtFirst(int n) {
        dueBytes("the making", bytesBehind(n, x -> { }), new byte[n * 512]);
    }

    static void wornDisksAreWhatTheTestsTakeThemFor(int n) {
        for (Worn state : Worn.values()) {
            dueBytes("the wearing of " + state, bytesBehind(n, state::wear), state.bytes(n));
        }
    }

    /** The words of the document, bit by bit. */
    private static int sumInWords(byte[] bytes) {
        int s = -1;
        for (byte b : bytes) {
            s ^= b & 255;
            for (int k = 0; k < 8; k++) {
                boolean odd = (s & 1) == 1;
                s >>>= 1;
                if (odd) {
                    s ^= -306674912;
                }
            }
        }
        return -1 - s;
    }

    static void sumOfNoBytesIs0(int n) {
        TwinTables x = formatted(n);
        due("the words", sumInWords(new byte[0]), 0);
        due("sum(1, 0, 0)", x.sum(1, 0, 0), 0);
    }

    static void sumOfEachSingleByte(int n) {
        TwinTables x = new TwinTables(n);
        for (int v = 0; v < 256; v++) {
            x.poke(5, 7, v);
            due("sum of the byte " + v, x.sum(5, 7, 1), sumInWords(new byte[] {(byte) v}));
        }
    }

    static void sumTakesTheBytesInTheirOrder(int n) {
        TwinTables x = new TwinTables(n);
        byte[] digits = "123456789".getBytes(java.nio.charset.StandardCharsets.ISO_8859_1);
        pokeNonZero(x, n - 1, digits, 503);
        due("the words", sumInWords(digits), 0xcbf43926);
        due("sum of 123456789", x.sum(n - 1, 503, 9), 0xcbf43926);
    }

    static void sumOfAWholeBlock(int n) {
        TwinTables x = new TwinTables(n);
        byte[] bytes = new byte[512];
        for (int k = 0; k < 500; k++) {
            bytes[k] = (byte) (k * k + 3 * k + 129);
            x.poke(n - 1, k, bytes[k]);
        }
        due("sum of a block", x.sum(n - 1, 0, 512), sumInWords(bytes));
    }

    static void sumOfBytesThatAreAll255(int n) {
        TwinTables x = new TwinTables(n);
        for (int k = 0; k < 4; k++) {
            x.poke(0, k, 255);
        }
        due("sum of 255, 255, 255, 255", x.sum(0, 0, 4), -1);
        due("the words", sumInWords(new byte[] {-1, -1, -1, -1}), -1);
    }

    // ---- GUIDs and their wrapping

    static void guidOfTheDiskWraps(int n) {
        for (long k : LONGS) {
            TwinTables x = new TwinTables(n);
            x.format(k);
            dueSixteen("format(" + k + ")", x, 1, 56, k);
            dueSixteen("format(" + k + ")", x, n - 1, 56, k);
        }
    }

    static void guidOfATypeWraps(int n) {
        for (long k : LONGS) {
            if (k != 0) {
                TwinTables x = formatted(n);
                due("make of type " + k, x.make(4, 4, k, 1, 0), 0);
                dueSixteen("make of type " + k, x, 2, 0, k);
                dueSixteen("make of type " + k, x, n - 3, 0, k);
            }
        }
    }

    static void guidOfAMarkWraps(int n) {
        for (long k : LONGS) {
            TwinTables x = formatted(n);
            due("make with mark " + k, x.make(4, 4, 1, k, 0), 0);
            dueSixteen("make with mark " + k, x, 2, 16, k);
            dueSixteen("make with mark " + k, x, n - 3, 16, k);
        }
    }

    private static void dueSixteen(String what, TwinTables x, int block, int place, long k) {
        byte[] want = guid(k);
        for (int j = 0; j < 16; j++) {
            due(what + ": byte " + (place + j) + " of block " + block, x.peek(block, place + j), want[j] & 255);
        }
    }

    // ---- the guard

    private static boolean isToldInGuard(int place) {
        return place == 450 || place >= 454;
    }

    static void guardIsGoodByItsToldBytesAlone(int n) {
        for (int from = 0; from < 512; from += 32) {
            TwinTables x = formatted(n);
            for (int place = from; place < from + 32; place++) {
                for (int bits : CHANGES) {
                    x.poke(0, place, guardBlock(n)[place] ^ bits);
                    due("guard() with byte " + place + " changed by " + bits, x.guard(), !isToldInGuard(place));
                }
                x.poke(0, place, guardBlock(n)[place]);
            }
            due("guard() with all put back", x.guard(), true);
        }
    }

    static void guardIsGoodWithAllOtherBytes255(int n) {
        TwinTables x = new TwinTables(n);
        for (int place = 0; place < 512; place++) {
            if (place >= 60 && (place < 454 || guardBlock(n)[place] != 0)) {
                x.poke(0, place, isToldInGuard(place) ? guardBlock(n)[place] : 255);
            }
        }
        due("guard()", x.guard(), true);
    }

    static void guardsLengthIsNMinus1(int n) {
        long[] lengths = {n - 2, n, 0, 1, -1, n - 1 + 256, n - 1 + (1L << 31)};
        for (long length : lengths) {
            TwinTables x = formatted(n);
            pokeNumber(x, 0, 458, 4, length);
            due("guard() with the length " + length, x.guard(), false);
            pokeNumber(x, 0, 458, 4, n - 1);
            due("guard() with the length n - 1", x.guard(), true);
        }
    }

    static void guardsStartIs1(int n) {
        long[] starts = {0, 2, -1, 257, 1 + (1L << 31)};
        for (long start : starts) {
            TwinTables x = formatted(n);
            pokeNumber(x, 0, 454, 4, start);
            due("guard() with the start " + start, x.guard(), false);
            pokeNumber(x, 0, 454, 4, 1);
            due("guard() with the start 1", x.guard(), true);
        }
    }

    static void guardsLastBytesAre85And170(int n) {
        int[][] ends = {{170, 85}, {84, 170}, {86, 170}, {85, 169}, {85, 171}, {0, 0}};
        for (int[] end : ends) {
            TwinTables x = formatted(n);
            x.poke(0, 510, end[0]);
            x.poke(0, 511, end[1]);
            due("guard() with the end " + end[0] + ", " + end[1], x.guard(), false);
        }
    }

    // ---- entries: free or not, in their places

    static void entryIsFreeOnlyIfAll16TypeBytesAre0(int n) {
        for (int i = 0; i < 8; i++) {
            TwinTables x = formatted(n);
            int block = 2 + i / 4;
            int at = i % 4 * 128;
            x.poke(block, at + 32, 4);
            x.poke(block, at + 40, 4);
            x.seal(0);
            due("count() with entry " + i + " free", x.count(), 0);
            for (int k = 0; k < 16; k++) {
                x.poke(block, at + k, k == 0 ? 1 : 128);
                x.seal(0);
                due("count() with byte " + k + " of entry " + i, x.count(), 1);
                x.poke(block, at + k, 0);
            }
            x.seal(0);
            due("count() with entry " + i + " free again", x.count(), 0);
        }
    }

    static void freeEntryMayHaveAnyOtherBytes(int n) {
        for (int i = 0; i < 8; i++) {
            TwinTables x = formatted(n);
            for (int k = 16; k < 128; k++) {
                x.poke(2 + i / 4, i % 4 * 128 + k, 255);
            }
            x.seal(0);
            due("fault(0) with bytes in the free entry " + i, x.fault(0), 0);
            due("count()", x.count(), 0);
            due("room()", x.room(), n - 7);
        }
    }

    static void usableBlocksAre4ToNMinus4(int n) {
        TwinTables x = formatted(n);
        due("room()", x.room(), n - 7);
        for (int b = 0; b < n; b++) {
            TwinTables y = formatted(n);
            boolean usable = b >= 4 && b <= n - 4;
            due("make(" + b + ", " + b + ")", y.make(b, b, 1, 1, 1), usable ? 0 : TwinTables.BAD_RANGE);
        }
    }

    // ---- faults of the header

    /** The fault of a header's byte in a copy that is sealed behind its change; 0 where none is told. */
    private static int faultOfByte(int place) {
        if (place < 8) {
            return 1;
        }
        if (place < 16 || place >= 20 && place < 24) {
            return 2;
        }
        if (place >= 24 && place < 32) {
            return 4;
        }
        return place >= 32 && place < 56 || place >= 72 && place < 88 ? 5 : 0;
    }

    static void eachByteOfASealedHeaderHasItsFault(int n) {
        for (int copy = 0; copy < 2; copy++) {
            int header = headerOf(n, copy);
            for (int place = 0; place < 92; place++) {
                TwinTables x = formatted(n);
                for (int bits : CHANGES) {
                    flip(x, header, place, bits);
                    x.seal(copy);
                    due("fault(" + copy + ") with byte " + place + " changed by " + bits, x.fault(copy), faultOfByte(place));
                    due("fault of the other", x.fault(1 - copy), 0);
                    flip(x, header, place, bits);
                    x.seal(copy);
                }
                due("fault(" + copy + ") with byte " + place + " put back", x.fault(copy), 0);
            }
        }
    }

    static void eachByteOfAHeaderThatIsNotSealed(int n) {
        for (int copy = 0; copy < 2; copy++) {
            for (int place = 0; place < 92; place++) {
                int told = faultOfByte(place);
                for (int bits : CHANGES) {
                    TwinTables x = formatted(n);
                    flip(x, headerOf(n, copy), place, bits);
                    due("fault(" + copy + ") with byte " + place + " changed by " + bits, x.fault(copy),
                        told == 1 || told == 2 ? told : 3);
                }
            }
        }
    }

    static void fieldsWithTheNumbersJustBeside(int n) {
        for (int copy = 0; copy < 2; copy++) {
            int own = headerOf(n, copy);
            int other = headerOf(n, 1 - copy);
            int array = arrayOf(n, copy);
            long[][] fields = {{8, 4, 65536, 2}, {12, 4, 92, 2}, {20, 4, 0, 2}, {24, 8, own, 4}, {32, 8, other, 5},
                {40, 8, 4, 5}, {48, 8, n - 4, 5}, {72, 8, array, 5}, {80, 4, 8, 5}, {84, 4, 128, 5}};
            for (long[] f : fields) {
                TwinTables x = formatted(n);
                long[] values = {f[2] - 1, f[2] + 1, f[2] + 256, -1, ~f[2], Long.MIN_VALUE + f[2]};
                for (long v : values) {
                    long kept = f[1] == 4 ? v & 0xffffffffL : v;
                    pokeNumber(x, own, (int) f[0], (int) f[1], v);
                    x.seal(copy);
                    due("fault(" + copy + ") with " + v + " at " + f[0], x.fault(copy), kept == f[2] ? 0 : f[3]);
                }
                pokeNumber(x, own, (int) f[0], (int) f[1], f[2]);
                x.seal(copy);
                due("fault(" + copy + ") with the right number at " + f[0], x.fault(copy), 0);
            }
        }
    }

    static void headerOfTheOtherCopyHasTheWrongBlock(int n) {
        for (int copy = 0; copy < 2; copy++) {
            TwinTables x = formatted(n);
            byte[] other = headerBlock(n, 1 - copy, guid(77), new byte[1024]);
            for (int k = 0; k < 92; k++) {
                x.poke(headerOf(n, copy), k, other[k]);
            }
            due("fault(" + copy + ") with the other's header", x.fault(copy), 4);
            x.poke(headerOf(n, copy), 24, headerOf(n, copy));
            x.seal(copy);
            due("... and its own block", x.fault(copy), 5);
            x.poke(headerOf(n, copy), 32, headerOf(n, 1 - copy));
            x.seal(copy);
            due("... and the other's block", x.fault(copy), 5);
            x.poke(headerOf(n, copy), 72, arrayOf(n, copy));
            x.seal(copy);
            due("... and its own array", x.fault(copy), 0);
        }
    }

    static void headersOfAnotherSizeHaveWrongFields(int n) {
        int m = n == 24 ? 12 : 24;
        TwinTables x = formatted(n);
        byte[] other = headerBlock(m, 0, guid(77), new byte[1024]);
        for (int k = 0; k < 92; k++) {
            x.poke(1, k, other[k]);
        }
        due("fault(0) with the header of a disk of " + m, x.fault(0), 5);
    }

    static void ownSumTakesItsFieldAs0(int n) {
        for (int copy = 0; copy < 2; copy++) {
            TwinTables x = formatted(n);
            int header = headerOf(n, copy);
            due("fault(" + copy + ")", x.fault(copy), 0);
            int with = x.sum(header, 0, 92);
            pokeNumber(x, header, 16, 4, 0);
            int without = x.sum(header, 0, 92);
            pokeNumber(x, header, 16, 4, with);
            due("fault(" + copy + ") with the sum that takes the field as it is", x.fault(copy), 3);
            pokeNumber(x, header, 16, 4, without);
            due("fault(" + copy + ") with the sum that takes the field as 0", x.fault(copy), 0);
        }
    }

    static void arraysSumTakesAll1024Bytes(int n) {
        for (int copy = 0; copy < 2; copy++) {
            for (int from = 0; from < 1024; from += 128) {
                TwinTables x = formatted(n);
                for (int at = from; at < from + 128; at++) {
                    int block = arrayOf(n, copy) + at / 512;
                    x.poke(block, at % 512, at % 2 == 0 ? 1 : 128);
                    due("fault(" + copy + ") with byte " + at + " of the array", x.fault(copy), 6);
                    x.poke(block, at % 512, 0);
                }
                due("fault(" + copy + ") with all put back", x.fault(copy), 0);
            }
        }
    }

    static void arraysSumIsTestedInEachOfItsBytes(int n) {
        for (int copy = 0; copy < 2; copy++) {
            for (int place = 88; place < 92; place++) {
                TwinTables x = formatted(n);
                int header = headerOf(n, copy);
                flip(x, header, place);
                pokeNumber(x, header, 16, 4, 0);
                pokeNumber(x, header, 16, 4, x.sum(header, 0, 92));
                due("fault(" + copy + ") with another byte " + place, x.fault(copy), 6);
            }
        }
    }

    static void otherBytesOfAHeaderDoNotMatter(int n) {
        for (int copy = 0; copy < 2; copy++) {
            TwinTables x = formatted(n);
            for (int place = 92; place < 512; place++) {
                x.poke(headerOf(n, copy), place, 255);
            }
            due("fault(" + copy + ") with 255 in the bytes 92 .. 511", x.fault(copy), 0);
            due("repair()", x.repair(), 0);
        }
    }

    static void disksMarkMayBeAny(int n) {
        for (int copy = 0; copy < 2; copy++) {
            TwinTables x = formatted(n);
            for (int v : new int[] {0, 255, 77}) {
                for (int place = 56; place < 72; place++) {
                    x.poke(headerOf(n, copy), place, v);
                }
                x.seal(copy);
                due("fault(" + copy + ") with a mark of " + v, x.fault(copy), 0);
            }
        }
    }

    static void bytesOutsideACopyAreNoFault(int n) {
        for (int block = 0; block < n; block++) {
            for (int place : new int[] {0, 91, 511}) {
                TwinTables x = formatted(n);
                flip(x, block, place);
                boolean front = block == 1 && place < 92 || block == 2 || block == 3;
                boolean back = block == n - 1 && place < 92 || block == n - 2 || block == n - 3;
                due("whether copy 0 has a fault by byte " + place + " of " + block, x.fault(0) != 0, front);
                due("whether copy 1 has a fault by byte " + place + " of " + block, x.fault(1) != 0, back);
            }
        }
    }

    // ---- the order of the faults

    /** Gives copy 0 or 1 every fault whose bit is set: bit 0 is fault 1, bit 6 is fault 7. */
    private static void giveFaults(TwinTables x, int copy, int faults) {
        int n = x.blocks();
        int header = headerOf(n, copy);
        int array = arrayOf(n, copy);
        int[][] bytes = {{header, 7}, {header, 23}, null, {header, 31}, {header, 87}, null, {array + 1, 256}};
        for (int k = 0; k < 7; k++) {
            if ((faults >> k & 1) == 1 && bytes[k] != null) {
                flip(x, bytes[k][0], bytes[k][1]);
            }
        }
        x.seal(copy);
        if ((faults >> 5 & 1) == 1) {
            flip(x, array + 1, 500);
        }
        if ((faults >> 2 & 1) == 1) {
            flip(x, header, 19);
        }
    }

    static void firstFaultCounts(int n) {
        for (int copy = 0; copy < 2; copy++) {
            for (int faults = 0; faults < 128; faults++) {
                TwinTables x = formatted(n);
                giveFaults(x, copy, faults);
                int want = faults == 0 ? 0 : 1 + Integer.numberOfTrailingZeros(faults);
                due("fault(" + copy + ") of the faults " + Integer.toBinaryString(faults), x.fault(copy), want);
                due("fault of the other", x.fault(1 - copy), 0);
            }
        }
    }

    static void newDiskHasFault1(int n) {
        TwinTables x = new TwinTables(n);
        due("fault(0)", x.fault(0), 1);
        due("fault(1)", x.fault(1), 1);
        x.seal(0);
        x.seal(1);
        due("fault(0) sealed", x.fault(0), 1);
        due("fault(1) sealed", x.fault(1), 1);
    }

    // ---- faults of the entries

    private static void pokeEntry(TwinTables x, int copy, int i, int mark, long first, long last) {
        int block = arrayOf(x.blocks(), copy) + i / 4;
        int at = i % 4 * 128;
        x.poke(block, at + 9, 1);
        x.poke(block, at + 16, mark);
        pokeNumber(x, block, at + 32, 8, first);
        pokeNumber(x, block, at + 40, 8, last);
    }

    private static void dueOfOne(int n, long first, long last, int fault) {
        for (int copy = 0; copy < 2; copy++) {
            for (int i = 0; i < 8; i++) {
                TwinTables x = formatted(n);
                pokeEntry(x, copy, i, 0, first, last);
                x.seal(copy);
                due("fault(" + copy + ") with " + first + " .. " + last + " in entry " + i, x.fault(copy), fault);
            }
        }
    }

    static void firstMayBe4(int n) {
        dueOfOne(n, 4, 4, 0);
        dueOfOne(n, 4, n - 4, 0);
    }

    static void firstMayNotBeLessThan4(int n) {
        dueOfOne(n, 3, 3, 7);
        dueOfOne(n, 3, 5, 7);
        dueOfOne(n, 0, 5, 7);
    }

    static void lastMayBeNMinus4(int n) {
        dueOfOne(n, n - 4, n - 4, 0);
        dueOfOne(n, 5, n - 4, 0);
    }

    static void lastMayNotBeMoreThanNMinus4(int n) {
        dueOfOne(n, n - 3, n - 3, 7);
        dueOfOne(n, 5, n - 3, 7);
        dueOfOne(n, 5, n - 1, 7);
    }

    static void firstMayNotBeMoreThanLast(int n) {
        dueOfOne(n, 6, 6, 0);
        dueOfOne(n, 6, 5, 7);
        dueOfOne(n, n - 4, 4, 7);
        dueOfOne(n, 7, 5, 7);
    }

    static void firstAndLastAreComparedAsLongs(int n) {
        long high = 1L << 32;
        dueOfOne(n, -1, 5, 7);
        dueOfOne(n, Long.MIN_VALUE, 5, 7);
        dueOfOne(n, Long.MIN_VALUE + 4, 5, 7);
        dueOfOne(n, Long.MAX_VALUE, 5, 7);
        dueOfOne(n, 5, Long.MAX_VALUE, 7);
        dueOfOne(n, 5, -1, 7);
        dueOfOne(n, 5, Long.MIN_VALUE, 7);
        dueOfOne(n, 5, Long.MIN_VALUE + 5, 7);
        dueOfOne(n, Long.MIN_VALUE, Long.MAX_VALUE, 7);
        dueOfOne(n, Long.MAX_VALUE, Long.MIN_VALUE, 7);
        dueOfOne(n, high + 5, 6, 7);
        dueOfOne(n, 5, high + 6, 7);
        dueOfOne(n, high + 5, high + 6, 7);
        dueOfOne(n, 5 - high, 6, 7);
        dueOfOne(n, 5, 6 - high, 7);
    }

    private static void dueOfTwo(int n, int[] one, int[] two, int fault) {
        for (int copy = 0; copy < 2; copy++) {
            for (int i = 0; i < 8; i++) {
                for (int j = 0; j < 8; j++) {
                    if (i != j) {
                        TwinTables x = formatted(n);
                        pokeEntry(x, copy, i, 1, one[0], one[1]);
                        pokeEntry(x, copy, j, 2, two[0], two[1]);
                        x.seal(copy);
                        due("fault(" + copy + ") with " + one[0] + " .. " + one[1] + " in entry " + i + " and "
                            + two[0] + " .. " + two[1] + " in entry " + j, x.fault(copy), fault);
                    }
                }
            }
        }
    }

    static void neighboursHaveNoBlockInCommon(int n) {
        dueOfTwo(n, new int[] {4, 5}, new int[] {6, n - 4}, 0);
        dueOfTwo(n, new int[] {4, n - 5}, new int[] {n - 4, n - 4}, 0);
    }

    static void oneBlockInCommonIsAFault(int n) {
        dueOfTwo(n, new int[] {4, 6}, new int[] {6, n - 4}, 7);
        dueOfTwo(n, new int[] {5, 5}, new int[] {5, 5}, 7);
    }

    static void oneRangeWithinAnotherIsAFault(int n) {
        dueOfTwo(n, new int[] {4, n - 4}, new int[] {6, 7}, 7);
        dueOfTwo(n, new int[] {4, n - 4}, new int[] {4, 4}, 7);
        dueOfTwo(n, new int[] {4, n - 4}, new int[] {n - 4, n - 4}, 7);
    }

    static void freeEntryHasNoBlockInCommon(int n) {
        TwinTables x = formatted(n);
        x.make(4, n - 4, 1, 1, 1);
        for (int i = 1; i < 8; i++) {
            pokeEntry(x, 0, i, 200 + i, 4, n - 4);
            x.poke(2 + i / 4, i % 4 * 128 + 9, 0);
        }
        x.seal(0);
        due("fault(0)", x.fault(0), 0);
    }

    static void sameMarkIsAFault(int n) {
        for (int i = 0; i < 8; i++) {
            for (int j = 0; j < 8; j++) {
                if (i != j) {
                    TwinTables x = formatted(n);
                    pokeEntry(x, 1, i, 9, 4, 4);
                    pokeEntry(x, 1, j, 9, 5, 5);
                    x.seal(1);
                    due("fault(1) with the same mark in the entries " + i + " and " + j, x.fault(1), 7);
                }
            }
        }
    }

    static void marksAreOtherByAnyOfTheir16Bytes(int n) {
        for (int k = 0; k < 16; k++) {
            TwinTables x = formatted(n);
            pokeEntry(x, 0, 2, 0, 4, 4);
            pokeEntry(x, 0, 5, 0, 5, 5);
            x.seal(0);
            due("fault(0) with marks all of whose bytes are 0", x.fault(0), 7);
            x.poke(3, 128 + 16 + k, 1);
            x.seal(0);
            due("fault(0) with another byte " + k + " in one mark", x.fault(0), 0);
        }
    }

    static void bytesBesideAMarkDoNotMakeItAnother(int n) {
        TwinTables x = formatted(n);
        pokeEntry(x, 0, 2, 3, 4, 4);
        pokeEntry(x, 0, 5, 3, 5, 5);
        x.poke(3, 128 + 15, 9);
        x.poke(3, 128 + 48, 9);
        x.seal(0);
        due("fault(0)", x.fault(0), 7);
    }

    static void markOfAFreeEntryIsNoFault(int n) {
        TwinTables x = formatted(n);
        x.make(5, 5, 1, 8, 1);
        byte[] mark = guid(8);
        for (int i = 1; i < 8; i++) {
            pokeNonZero(x, 2 + i / 4, mark, i % 4 * 128 + 16);
        }
        x.seal(0);
        due("fault(0)", x.fault(0), 0);
        due("count()", x.count(), 1);
    }

    static void faultOfOneCopyIsNotTheOthers(int n) {
        for (int copy = 0; copy < 2; copy++) {
            TwinTables x = formatted(n);
            pokeEntry(x, copy, 7, 1, 3, 4);
            x.seal(copy);
            due("fault(" + copy + ")", x.fault(copy), 7);
            due("fault of the other", x.fault(1 - copy), 0);
        }
    }

    // ---- which copy's table is the table

    static void tableIsCopy0sIfBothAreSound(int n) {
        TwinTables x = Worn.FRONT.disk(n);
        due("fault(0)", x.fault(0), 0);
        due("fault(1)", x.fault(1), 0);
        due("source()", x.source(), 0);
        due("count()", x.count(), 2);
    }

    static void tableIsCopy1sIfCopy0IsNotSound(int n) {
        for (int fault = 1; fault <= 7; fault++) {
            TwinTables x = formatted(n);
            x.make(5, 5, 1, 1, 1);
            x.poke(n - 3, 56, 'q');
            x.seal(1);
            due("letter(0, 0) of copy 0", x.letter(0, 0), 0);
            giveFaults(x, 0, 1 << fault - 1);
            due("fault(0)", x.fault(0), fault);
            due("source() with fault " + fault, x.source(), 1);
            due("letter(0, 0) of copy 1", x.letter(0, 0), 'q');
        }
    }

    static void thereIsNoTableIfNeitherIsSound(int n) {
        for (int fault = 1; fault <= 7; fault++) {
            TwinTables x = formatted(n);
            giveFaults(x, 0, 1 << fault - 1);
            giveFaults(x, 1, 1 << 7 - fault);
            due("source() with the faults " + fault + " and " + (8 - fault), x.source(), NONE);
            due("count()", x.count(), NONE);
        }
    }

    // ---- the writing of a table

    private static void callThatWrites(TwinTables x, int call) {
        switch (call) {
            case 0: x.format(77); break;
            case 1: x.make(5, 5, 1, 1, 1); break;
            case 2: x.remove(0); break;
            case 3: x.rename(0, 3, 'w'); break;
            case 4: x.move(0, 6, 6); break;
            default: x.repair(); break;
        }
    }

    /** The bytes 92 .. 511 are too many for one object's calls: three objects have a third of them each. */
    static void writingMakesTheHeadersOtherBytes0(int n) {
        for (int copy = 0; copy < 2; copy++) {
            for (int call = 0; call < 6; call++) {
                for (int third = 0; third < 3; third++) {
                    TwinTables x = formatted(n);
                    x.make(4, 4, 2, 2, 2);
                    int from = 92 + third * 140;
                    for (int place = from; place < from + 140; place++) {
                        x.poke(headerOf(n, copy), place, 255);
                    }
                    // A table that needs no writing is not written by repair.
                    flip(x, headerOf(n, 1 - copy), 0);
                    callThatWrites(x, call);
                    for (int place = from; place < from + 140; place++) {
                        due("byte " + place + " of header " + copy + " behind call " + call,
                            x.peek(headerOf(n, copy), place), 0);
                    }
                }
            }
        }
    }

    static void writingTakesEveryByteOfTheArray(int n) {
        for (int copy = 0; copy < 2; copy++) {
            for (int i = 1; i < 8; i++) {
                TwinTables x = formatted(n);
                x.make(4, 4, 2, 2, 2);
                for (int k = 16; k < 128; k++) {
                    x.poke(arrayOf(n, copy) + i / 4, i % 4 * 128 + k, k);
                }
                x.seal(copy);
                flip(x, headerOf(n, 1 - copy), 0);
                due("rename(0, 0)", x.rename(0, 0, 'r'), true);
                for (int k = 16; k < 128; k++) {
                    due("byte " + k + " of entry " + i + " in copy 0", x.peek(2 + i / 4, i % 4 * 128 + k), k);
                    due("byte " + k + " of entry " + i + " in copy 1", x.peek(n - 3 + i / 4, i % 4 * 128 + k), k);
                }
            }
        }
    }

    static void writingKeepsTheDisksMark(int n) {
        for (int copy = 0; copy < 2; copy++) {
            byte[] mark = new byte[16];
            for (int k = 0; k < 16; k++) {
                mark[k] = (byte) (200 + k);
            }
            int chosen = copy;
            byte[] got = bytesBehind(n, x -> {
                x.format(77);
                x.make(4, 4, 1, 1, 1);
                pokeNonZero(x, headerOf(n, chosen), mark, 56);
                x.seal(chosen);
                flip(x, headerOf(n, 1 - chosen), 0);
                x.move(0, 5, 5);
            });
            dueBytes("move with the table of copy " + copy, got,
                written(emptyTable(n, 77), mark, array(entry(5, 5, 1, 1, 1, ""))));
        }
    }

    static void writingLeavesGuardAndUsableBlocks(int n) {
        byte[] array = Worn.FRONT.array(n);
        byte[] entry = entryIn(array, 0);
        entry[56 + 70] = 'g';
        for (Worn state : Worn.WITH_TABLE) {
            dueWritten("rename(0, 35)", n, state, x -> bit(x.rename(0, 35, 'g')), 1, withEntry(array, 0, entry));
        }
    }

    static void bothCopiesAreSoundBehindAWriting(int n) {
        for (int call = 0; call < 6; call++) {
            for (int fault = 1; fault <= 7; fault++) {
                for (int copy = 0; copy < 2; copy++) {
                    TwinTables x = formatted(n);
                    x.make(4, 4, 2, 2, 2);
                    giveFaults(x, copy, 1 << fault - 1);
                    callThatWrites(x, call);
                    due("fault(0) behind call " + call, x.fault(0), 0);
                    due("fault(1) behind call " + call, x.fault(1), 0);
                    due("repair() behind call " + call, x.repair(), 0);
                }
            }
        }
    }

    static void constantsOfMake() {
        int[] got = {TwinTables.NONE, TwinTables.NO_TABLE, TwinTables.NO_TYPE, TwinTables.BAD_RANGE, TwinTables.TAKEN,
            TwinTables.SAME_MARK, TwinTables.FULL};
        due("the constants", bit(Arrays.equals(got, new int[] {-1, -1, -2, -3, -4, -5, -6})), 1);
    }
}
