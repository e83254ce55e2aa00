/**
 * One group of calls for each promise of the document: ordinary inputs, the edges that it names, wrong inputs.
 * Every object gets fewer than 512 calls, since the document promises nothing beyond them.
 */
public final class PromisesTest extends DiskChecks {
    public static void main(String[] args) {
        promise1NewObject();
        promise2Blocks();
        promise3Peek();
        promise4Poke();
        promise5Format();
        promise6Seal();
        promise7Guard();
        promise8FaultsOfHeader();
        promise8FaultsOfHeaderInEveryByte();
        promise8FaultsOfEntries();
        promise8OrderOfFaults();
        promise9Source();
        promise10Make();
        promise10RefusalsInOrder();
        promise10EdgesOfRange();
        promise11Remove();
        promise12Rename();
        promise13Move();
        promise14Repair();
        promise14Differences();
        promise15Count();
        promise16Field();
        promise17Letter();
        promise18Room();
        promise19Sum();
        withoutTable();
        writingFromEitherCopy();
        bytesBesideTheArrays();
        end("all promises hold");
    }

    // ---- looks at a disk by the sums of its blocks

    private static void dueBlock(String what, TwinTables x, int block, byte[] want) {
        due(what + ": the sum of block " + block, x.sum(block, 0, 512), crc(want));
    }

    private static void dueTable(String what, TwinTables x, byte[] mark, byte[] array) {
        int n = x.blocks();
        byte[] low = java.util.Arrays.copyOfRange(array, 0, 512);
        byte[] high = java.util.Arrays.copyOfRange(array, 512, 1024);
        dueBlock(what, x, 1, headerBlock(n, 0, mark, array));
        dueBlock(what, x, n - 1, headerBlock(n, 1, mark, array));
        dueBlock(what, x, 2, low);
        dueBlock(what, x, 3, high);
        dueBlock(what, x, n - 3, low);
        dueBlock(what, x, n - 2, high);
    }

    private static int[] picture(TwinTables x) {
        int[] sums = new int[x.blocks()];
        for (int b = 0; b < sums.length; b++) {
            sums[b] = x.sum(b, 0, 512);
        }
        return sums;
    }

    private static void dueSame(String what, TwinTables x, int[] before) {
        for (int b = 0; b < before.length; b++) {
            due(what + " must leave block " + b + ", whose sum", x.sum(b, 0, 512), before[b]);
        }
    }

    // ---- the promises

    private static void promise1NewObject() {
        for (int n = 8; n <= 28; n++) {
            int want = n >= 12 && n <= 24 ? n : 16;
            TwinTables x = new TwinTables(n);
            due("new " + n + ": blocks()", x.blocks(), want);
            for (int b = 0; b < want; b++) {
                dueBlock("new " + n, x, b, new byte[512]);
            }
            due("new " + n + ": peek in the last block", x.peek(want - 1, 511), 0);
            due("new " + n + ": peek behind the last block", x.peek(want, 0), TwinTables.NONE);
        }
        for (int n : EXTREMES) {
            due("new " + n + ": blocks()", new TwinTables(n).blocks(), 16);
        }
        due("new 0: blocks()", new TwinTables(0).blocks(), 16);
    }

    private static void promise2Blocks() {
        TwinTables x = new TwinTables(21);
        x.poke(0, 0, 9);
        x.format(4);
        x.make(4, 5, 6, 7, 8);
        due("blocks() after other calls", x.blocks(), 21);
    }

    private static void promise3Peek() {
        TwinTables x = new TwinTables(12);
        x.poke(0, 0, 255);
        x.poke(11, 511, 128);
        due("peek(0, 0)", x.peek(0, 0), 255);
        due("peek(11, 511)", x.peek(11, 511), 128);
        due("peek(5, 5)", x.peek(5, 5), 0);
        due("peek(12, 0)", x.peek(12, 0), TwinTables.NONE);
        due("peek(0, 512)", x.peek(0, 512), TwinTables.NONE);
        due("peek(1, -512)", x.peek(1, -512), TwinTables.NONE);
        for (int v : EXTREMES) {
            due("peek(" + v + ", 0)", x.peek(v, 0), TwinTables.NONE);
            due("peek(0, " + v + ")", x.peek(0, v), TwinTables.NONE);
        }
    }

    private static void promise4Poke() {
        TwinTables x = new TwinTables(24);
        due("poke(23, 511, 0x1234)", x.poke(23, 511, 0x1234), true);
        due("its byte", x.peek(23, 511), 0x34);
        due("poke(0, 0, -1)", x.poke(0, 0, -1), true);
        due("its byte", x.peek(0, 0), 255);
        due("its neighbour", x.peek(0, 1), 0);
        due("poke(0, 0, 256)", x.poke(0, 0, 256), true);
        due("its byte", x.peek(0, 0), 0);
        x.poke(4, 0, 7);
        int[] before = picture(x);
        due("poke(24, 0, 1)", x.poke(24, 0, 1), false);
        due("poke(3, 512, 1)", x.poke(3, 512, 1), false);
        due("poke(5, -1, 1)", x.poke(5, -1, 1), false);
        for (int v : EXTREMES) {
            due("poke(" + v + ", 0, 1)", x.poke(v, 0, 1), false);
            due("poke(0, " + v + ", 1)", x.poke(0, v, 1), false);
        }
        dueSame("a refused poke", x, before);
    }

    private static void promise5Format() {
        long[] disks = {0, 1, -1, 77, Long.MIN_VALUE, Long.MAX_VALUE};
        for (int n = 12; n <= 24; n++) {
            for (long disk : disks) {
                TwinTables x = new TwinTables(n);
                for (int b = 0; b < n; b++) {
                    x.poke(b, 3, 9);
                    x.poke(b, 200, 9);
                    x.poke(b, 508, 9);
                }
                byte[] kept = row(512).put(3, (byte) 9).put(200, (byte) 9).put(508, (byte) 9).array();
                x.format(disk);
                String what = "format(" + disk + ") of " + n;
                dueBlock(what, x, 0, guardBlock(n));
                dueTable(what, x, guid(disk), array());
                for (int b = 4; b <= n - 4; b++) {
                    dueBlock(what, x, b, kept);
                }
            }
        }
        TwinTables x = formatted(16);
        x.make(4, 5, 6, 7, 8);
        x.format(3);
        dueTable("format behind make", x, guid(3), array());
        due("count() behind format", x.count(), 0);
    }

    private static void promise6Seal() {
        for (int copy = 0; copy < 2; copy++) {
            int header = copy == 0 ? 1 : 15;
            int[] arrayBlocks = copy == 0 ? new int[] {2, 3} : new int[] {13, 14};
            TwinTables x = formatted(16);
            x.poke(arrayBlocks[0], 0, 200);
            x.poke(arrayBlocks[1], 511, 9);
            x.poke(header, 56, 1);
            x.poke(header, 17, 99);
            x.poke(header, 90, 99);
            x.poke(header, 92, 5);
            byte[] mark = guid(77);
            mark[0] = 1;
            byte[] array = new byte[1024];
            array[0] = (byte) 200;
            array[1023] = 9;
            byte[] want = headerBlock(16, copy, mark, array);
            want[92] = 5;
            int[] before = picture(x);
            due("seal(" + copy + ")", x.seal(copy), true);
            dueBlock("seal(" + copy + ")", x, header, want);
            before[header] = crc(want);
            dueSame("seal(" + copy + ")", x, before);
            due("seal(2)", x.seal(2), false);
            for (int v : EXTREMES) {
                due("seal(" + v + ")", x.seal(v), false);
            }
            dueSame("a refused seal", x, before);
        }
        sealWithoutTable();
    }

    private static void sealWithoutTable() {
        TwinTables x = new TwinTables(12);
        due("seal(1) of an empty disk", x.seal(1), true);
        byte[] header = row(512).putInt(88, crc(new byte[1024])).array();
        int own = crc(java.util.Arrays.copyOf(header, 92));
        dueBlock("seal(1) of an empty disk", x, 11, row(512).put(header).putInt(16, own).array());
        due("fault(1) of it", x.fault(1), 1);
    }

    private static void promise7Guard() {
        for (int n = 12; n <= 24; n += 6) {
            due("guard() of an empty disk", new TwinTables(n).guard(), false);
            TwinTables x = formatted(n);
            due("guard() behind format", x.guard(), true);
            for (int place = 440; place < 512; place++) {
                boolean free = place < 450 || place > 450 && place < 454;
                flip(x, 0, place);
                due("guard() with another byte " + place, x.guard(), free);
                flip(x, 0, place);
            }
            x.poke(0, 0, 5);
            due("guard() with another byte 0", x.guard(), true);
            x.poke(1, 0, 5);
            x.poke(n - 1, 0, 5);
            due("guard() without a table", x.guard(), true);
            pokeNumber(x, 0, 458, 4, n);
            due("guard() with n for n - 1", x.guard(), false);
        }
    }

    private static void promise8FaultsOfHeader() {
        int[][] fields = {{8, 4, 2}, {12, 4, 2}, {20, 4, 2}, {24, 8, 4}, {32, 8, 5}, {40, 8, 5}, {48, 8, 5},
            {72, 8, 5}, {80, 4, 5}, {84, 4, 5}};
        for (int copy = 0; copy < 2; copy++) {
            int header = copy == 0 ? 1 : 19;
            for (int[] f : fields) {
                TwinTables x = formatted(20);
                due("fault(" + copy + ") behind format", x.fault(copy), 0);
                for (int k = 0; k < f[1]; k++) {
                    x.poke(header, f[0] + k, x.peek(header, f[0] + k) ^ 128);
                    x.seal(copy);
                    due("fault(" + copy + ") with another byte " + (f[0] + k), x.fault(copy), f[2]);
                    due("fault of the other", x.fault(1 - copy), 0);
                    x.poke(header, f[0] + k, x.peek(header, f[0] + k) ^ 128);
                    x.seal(copy);
                    due("fault(" + copy + ") with the byte put back", x.fault(copy), 0);
                }
            }
        }
        TwinTables x = formatted(16);
        due("fault(2)", x.fault(2), TwinTables.NONE);
        for (int v : EXTREMES) {
            due("fault(" + v + ")", x.fault(v), TwinTables.NONE);
        }
    }

    private static void promise8FaultsOfHeaderInEveryByte() {
        for (int copy = 0; copy < 2; copy++) {
            TwinTables x = formatted(12);
            int header = copy == 0 ? 1 : 11;
            for (int place = 0; place < 96; place++) {
                int want = place < 8 ? 1 : place < 16 || place >= 20 && place < 24 ? 2 : place < 92 ? 3 : 0;
                flip(x, header, place);
                due("fault(" + copy + ") with another byte " + place + ", not sealed", x.fault(copy), want);
                flip(x, header, place);
            }
            x.poke(header, 511, 1);
            due("fault(" + copy + ") with another byte 511", x.fault(copy), 0);
            pokeNumber(x, header, 56, 8, 123456789);
            x.seal(copy);
            due("fault(" + copy + ") with another disk's mark", x.fault(copy), 0);
        }
        TwinTables y = formatted(12);
        int[] arrayBlocks = {2, 3, 9, 10};
        for (int block : arrayBlocks) {
            int copy = block < 4 ? 0 : 1;
            for (int place = 0; place < 512; place += 73) {
                flip(y, block, place);
                due("fault with another byte " + place + " in block " + block, y.fault(copy), 6);
                flip(y, block, place);
            }
        }
        due("fault(0) with all put back", y.fault(0), 0);
        due("fault(1) with all put back", y.fault(1), 0);
    }

    /** The fault of copy 1 of a disk of 20 blocks, whose entries 3 and 7 are told. */
    private static int faultOfTwo(long first, long last, long otherFirst, long otherLast) {
        TwinTables x = formatted(20);
        x.poke(17, 384, 1);
        x.poke(18, 384 + 15, 1);
        x.poke(17, 384 + 31, 1);
        pokeNumber(x, 17, 384 + 32, 8, first);
        pokeNumber(x, 17, 384 + 40, 8, last);
        pokeNumber(x, 18, 384 + 32, 8, otherFirst);
        pokeNumber(x, 18, 384 + 40, 8, otherLast);
        x.seal(1);
        return x.fault(1);
    }

    private static void promise8FaultsOfEntries() {
        due("entries 4 .. 16 and none", faultOfTwo(4, 15, 16, 16), 0);
        due("entries in the other order", faultOfTwo(16, 16, 4, 15), 0);
        due("FIRST is 3", faultOfTwo(3, 5, 7, 8), 7);
        due("FIRST is less than 0", faultOfTwo(-1, 5, 7, 8), 7);
        due("FIRST is the least long", faultOfTwo(Long.MIN_VALUE, 5, 7, 8), 7);
        due("LAST is 17", faultOfTwo(4, 5, 7, 17), 7);
        due("LAST is the greatest long", faultOfTwo(4, 5, 7, Long.MAX_VALUE), 7);
        due("LAST is less than FIRST", faultOfTwo(4, 5, 8, 7), 7);
        due("LAST is less than 0", faultOfTwo(4, -5, 8, 9), 7);
        due("LAST has a high bit", faultOfTwo(4, 5L + (1L << 32), 8, 9), 7);
        due("FIRST has a high bit", faultOfTwo(4L + (1L << 32), 5, 8, 9), 7);
        due("one block in common at the end", faultOfTwo(4, 8, 8, 9), 7);
        due("one block in common at the beginning", faultOfTwo(8, 9, 4, 8), 7);
        due("one within the other", faultOfTwo(4, 16, 8, 9), 7);
        due("one around the other", faultOfTwo(8, 9, 4, 16), 7);
        due("the same blocks", faultOfTwo(8, 9, 8, 9), 7);
        faultsOfEachEntry();
        faultsOfMarks();
        faultsOfFreeEntries();
    }

    private static void faultsOfEachEntry() {
        for (int i = 0; i < 8; i++) {
            TwinTables x = formatted(16);
            x.poke(2 + i / 4, i % 4 * 128 + 8, 1);
            x.poke(2 + i / 4, i % 4 * 128 + 32, 4);
            x.poke(2 + i / 4, i % 4 * 128 + 40, 12);
            x.seal(0);
            due("entry " + i + " alone", x.fault(0), 0);
            x.poke(2 + i / 4, i % 4 * 128 + 32, 3);
            x.seal(0);
            due("entry " + i + " alone with a bad FIRST", x.fault(0), 7);
        }
    }

    private static void faultsOfMarks() {
        TwinTables x = formatted(16);
        x.make(4, 4, 1, 100, 0);
        x.make(5, 5, 1, 101, 0);
        x.make(6, 6, 1, 102, 0);
        pokeNumber(x, 2, 256 + 16, 8, 100);
        x.seal(0);
        due("half of a mark alike", x.fault(0), 0);
        pokeNumber(x, 2, 256 + 24, 8, 100 * 2862933555777941757L + 3037000493L);
        x.seal(0);
        due("the same mark in the entries 0 and 2", x.fault(0), 7);
        flip(x, 2, 256 + 31);
        x.seal(0);
        due("marks with another last byte", x.fault(0), 0);
    }

    private static void faultsOfFreeEntries() {
        TwinTables x = formatted(16);
        x.make(4, 12, 1, 0, 0);
        x.poke(2, 128 + 32, 1);
        x.poke(2, 128 + 40, 255);
        byte[] mark = guid(0);
        for (int k = 0; k < 16; k++) {
            x.poke(2, 128 + 16 + k, mark[k]);
        }
        x.seal(0);
        due("a free entry with bad blocks and the same mark", x.fault(0), 0);
        for (int k = 0; k < 16; k++) {
            x.poke(2, 128 + k, 1);
            x.seal(0);
            due("an entry that is not free by byte " + k, x.fault(0), 7);
            x.poke(2, 128 + k, 0);
        }
    }

    private static void promise8OrderOfFaults() {
        TwinTables x = formatted(16);
        x.poke(2, 0, 1);
        due("an array without its sum", x.fault(0), 6);
        x.poke(1, 84, 1);
        x.seal(0);
        x.poke(3, 0, 1);
        due("... and a wrong field at 84", x.fault(0), 5);
        x.poke(1, 25, 1);
        x.seal(0);
        due("... and a wrong field at 24", x.fault(0), 4);
        x.poke(1, 16, x.peek(1, 16) + 1);
        due("... and a wrong own sum", x.fault(0), 3);
        x.poke(1, 23, 1);
        due("... and a wrong field at 20", x.fault(0), 2);
        x.poke(1, 7, 1);
        due("... and a wrong character", x.fault(0), 1);
    }

    private static void promise9Source() {
        TwinTables x = new TwinTables(18);
        due("source() of an empty disk", x.source(), TwinTables.NONE);
        x.format(1);
        due("source() behind format", x.source(), 0);
        x.poke(17, 0, 0);
        due("source() without copy 1", x.source(), 0);
        x.poke(1, 0, 0);
        due("source() without both", x.source(), TwinTables.NONE);
        x.poke(17, 0, 'E');
        due("source() without copy 0", x.source(), 1);
        x.poke(0, 510, 0);
        due("source() without a guard", x.source(), 1);
    }

    private static void promise10Make() {
        TwinTables x = formatted(24);
        due("make at the first block", x.make(4, 4, -1, 0, -1), 0);
        due("make at the last block", x.make(20, 20, 1, Long.MIN_VALUE, Long.MAX_VALUE), 1);
        byte[] one = entry(4, 4, -1, 0, -1, "");
        byte[] two = entry(20, 20, 1, Long.MIN_VALUE, Long.MAX_VALUE, "");
        dueTable("make", x, guid(77), array(one, two));
        x.remove(0);
        for (int place = 16; place < 128; place++) {
            x.poke(2, place, 170);
        }
        x.seal(0);
        due("make in a free entry with other bytes", x.make(5, 6, 7, 8, 9), 0);
        dueTable("make in it", x, guid(77), array(entry(5, 6, 7, 8, 9, ""), two));
        dueBlock("make", x, 0, guardBlock(24));
    }

    private static void promise10RefusalsInOrder() {
        TwinTables x = formatted(24);
        for (int i = 0; i < 7; i++) {
            due("make " + i, x.make(4 + i, 4 + i, 1, i, 0), i);
        }
        due("make 7", x.make(19, 20, 1, 7, 0), 7);
        int[] before = picture(x);
        due("make with all wrong", x.make(3, 4, 0, 7, 0), TwinTables.NO_TYPE);
        due("make with bad blocks", x.make(3, 4, 1, 7, 0), TwinTables.BAD_RANGE);
        due("make with a taken block", x.make(4, 4, 1, 7, 0), TwinTables.TAKEN);
        for (int i = 0; i < 8; i++) {
            due("make with the mark of entry " + i, x.make(11, 11, 1, i, 0), TwinTables.SAME_MARK);
        }
        due("make without a free entry", x.make(11, 11, 1, 8, 0), TwinTables.FULL);
        due("make round all", x.make(4, 20, 1, 8, 0), TwinTables.TAKEN);
        due("make up to the last one", x.make(11, 19, 1, 8, 0), TwinTables.TAKEN);
        due("make within the last one", x.make(20, 20, 1, 8, 0), TwinTables.TAKEN);
        due("make from the one before on", x.make(10, 12, 1, 8, 0), TwinTables.TAKEN);
        dueSame("a refused make", x, before);
        x.poke(1, 0, 0);
        x.poke(23, 0, 0);
        before = picture(x);
        due("make without a table", x.make(3, 4, 0, 7, 0), TwinTables.NO_TABLE);
        dueSame("a refused make", x, before);
    }

    private static void promise10EdgesOfRange() {
        for (int n = 12; n <= 24; n++) {
            TwinTables x = formatted(n);
            due("make(3, 4)", x.make(3, 4, 1, 1, 1), TwinTables.BAD_RANGE);
            due("make up to n - 3", x.make(4, n - 3, 1, 1, 1), TwinTables.BAD_RANGE);
            due("make(6, 5)", x.make(6, 5, 1, 1, 1), TwinTables.BAD_RANGE);
            due("make(least, 4)", x.make(Integer.MIN_VALUE, 4, 1, 1, 1), TwinTables.BAD_RANGE);
            due("make(4, greatest)", x.make(4, Integer.MAX_VALUE, 1, 1, 1), TwinTables.BAD_RANGE);
            due("make(greatest, least)", x.make(Integer.MAX_VALUE, Integer.MIN_VALUE, 1, 1, 1), TwinTables.BAD_RANGE);
            due("make(4, n - 4)", x.make(4, n - 4, 1, 1, 1), 0);
        }
        marksOfFreeEntriesAndHalfMarks();
    }

    private static void marksOfFreeEntriesAndHalfMarks() {
        TwinTables x = formatted(16);
        x.make(4, 12, 1, 5, 0);
        x.poke(2, 0, 0);
        for (int k = 0; k < 16; k++) {
            x.poke(2, k, 0);
        }
        x.seal(0);
        due("make over a free entry with these blocks and this mark", x.make(4, 12, 1, 5, 0), 0);
        x.move(0, 4, 4);
        flip(x, 2, 24);
        x.seal(0);
        due("make with half of a mark alike", x.make(5, 5, 1, 5, 0), 1);
    }

    private static void promise11Remove() {
        TwinTables x = formatted(20);
        x.make(4, 5, 1, 1, 1);
        x.make(6, 7, 2, 2, 2);
        x.make(8, 9, 3, 3, 3);
        x.rename(1, 0, 'n');
        int[] before = picture(x);
        due("remove(3)", x.remove(3), false);
        due("remove(8)", x.remove(8), false);
        for (int v : EXTREMES) {
            due("remove(" + v + ")", x.remove(v), false);
        }
        dueSame("a refused remove", x, before);
        due("remove(1)", x.remove(1), true);
        dueTable("remove(1)", x, guid(77), array(entry(4, 5, 1, 1, 1, ""), new byte[128], entry(8, 9, 3, 3, 3, "")));
        due("remove(1) again", x.remove(1), false);
        due("make in the entry", x.make(6, 7, 2, 2, 2), 1);
    }

    private static void promise12Rename() {
        TwinTables x = formatted(13);
        x.make(4, 5, 1, 1, 1);
        x.make(6, 7, 2, 2, 2);
        String name = "abcdefghijklmnopqrstuvwxyz012345678" + (char) 0xfedc;
        for (int k = 35; k >= 0; k--) {
            due("rename(1, " + k + ")", x.rename(1, k, name.charAt(k)), true);
        }
        dueTable("rename", x, guid(77), array(entry(4, 5, 1, 1, 1, ""), entry(6, 7, 2, 2, 2, name)));
        int[] before = picture(x);
        due("rename(1, 36)", x.rename(1, 36, 'x'), false);
        due("rename(2, 0)", x.rename(2, 0, 'x'), false);
        due("rename(8, 0)", x.rename(8, 0, 'x'), false);
        for (int v : EXTREMES) {
            due("rename(" + v + ", 0)", x.rename(v, 0, 'x'), false);
            due("rename(0, " + v + ")", x.rename(0, v, 'x'), false);
        }
        dueSame("a refused rename", x, before);
        due("rename to 0", x.rename(1, 35, (char) 0), true);
        due("rename to the greatest", x.rename(1, 34, (char) 65535), true);
        String other = name.substring(0, 34) + (char) 65535;
        dueTable("rename", x, guid(77), array(entry(4, 5, 1, 1, 1, ""), entry(6, 7, 2, 2, 2, other)));
    }

    private static void promise13Move() {
        TwinTables x = formatted(16);
        x.make(5, 6, 1, 1, 1);
        x.make(8, 9, 2, 2, 2);
        x.rename(0, 1, 'q');
        int[] before = picture(x);
        due("move(0, 5, 8)", x.move(0, 5, 8), false);
        due("move(0, 9, 12)", x.move(0, 9, 12), false);
        due("move(0, 4, 12)", x.move(0, 4, 12), false);
        due("move(0, 3, 4)", x.move(0, 3, 4), false);
        due("move(0, 12, 13)", x.move(0, 12, 13), false);
        due("move(0, 6, 5)", x.move(0, 6, 5), false);
        due("move(2, 10, 10)", x.move(2, 10, 10), false);
        due("move(8, 10, 10)", x.move(8, 10, 10), false);
        for (int v : EXTREMES) {
            due("move(" + v + ", 10, 10)", x.move(v, 10, 10), false);
            due("move(0, " + v + ", " + v + ")", x.move(0, v, v), false);
        }
        dueSame("a refused move", x, before);
        byte[] two = entry(8, 9, 2, 2, 2, "");
        int[][] ranges = {{5, 6}, {6, 7}, {4, 7}, {10, 12}, {12, 12}, {4, 4}};
        for (int[] r : ranges) {
            due("move(0, " + r[0] + ", " + r[1] + ")", x.move(0, r[0], r[1]), true);
            dueTable("move", x, guid(77), array(entry(r[0], r[1], 1, 1, 1, (char) 0 + "q"), two));
        }
        x.remove(1);
        due("move over a removed one", x.move(0, 4, 12), true);
    }

    private static void promise14Repair() {
        for (int damage = 0; damage < 8; damage++) {
            TwinTables x = formatted(15);
            x.make(4, 5, 6, 7, 8);
            byte[] array = array(entry(4, 5, 6, 7, 8, ""));
            x.poke(6, 6, 6);
            x.poke(0, 10, 3);
            if ((damage & 1) != 0) {
                x.poke(0, 511, 0);
            }
            if ((damage & 2) != 0) {
                x.poke(2, 100, 1);
            }
            if ((damage & 4) != 0) {
                x.poke(14, 60, 1);
            }
            int[] before = picture(x);
            boolean lost = (damage & 6) == 6;
            due("repair() of damage " + damage, x.repair(), lost ? TwinTables.NONE : damage);
            if (lost || damage == 0) {
                dueSame("repair() of damage " + damage, x, before);
            } else {
                dueTable("repair() of damage " + damage, x, guid(77), array);
                due("guard() behind repair()", x.guard(), true);
                due("a byte of no table", x.peek(6, 6), 6);
                due("byte 10 of the guard", x.peek(0, 10), (damage & 1) != 0 ? 0 : 3);
                due("repair() again", x.repair(), 0);
            }
        }
        TwinTables y = new TwinTables(16);
        due("repair() of an empty disk", y.repair(), TwinTables.NONE);
        due("guard() behind it", y.guard(), false);
    }

    private static void promise14Differences() {
        int[][] places = {{1, 56}, {1, 71}, {15, 56}, {15, 71}, {2, 16}, {3, 511}, {13, 16}, {14, 511}};
        for (int[] place : places) {
            TwinTables x = formatted(16);
            boolean inFront = place[0] < 4;
            flip(x, place[0], place[1]);
            x.seal(inFront ? 0 : 1);
            byte[] mark = guid(77);
            byte[] array = new byte[1024];
            if (place[0] == 1) {
                mark[place[1] - 56] ^= 1;
            } else if (inFront) {
                array[(place[0] - 2) * 512 + place[1]] ^= 1;
            }
            x.poke(0, 450, 1);
            String what = "repair() of byte " + place[1] + " in block " + place[0];
            due(what, x.repair(), 9);
            dueTable(what, x, mark, array);
            dueBlock(what, x, 0, guardBlock(16));
            due(what + " again", x.repair(), 0);
        }
        TwinTables y = formatted(16);
        y.poke(1, 92, 1);
        y.poke(15, 511, 1);
        int[] before = picture(y);
        due("repair() of bytes that do not matter", y.repair(), 0);
        dueSame("repair() of bytes that do not matter", y, before);
        y.poke(0, 510, 0);
        due("repair() of the guard alone", y.repair(), 1);
        due("byte 92 behind repair() of the guard alone", y.peek(1, 92), 1);
    }

    private static void promise15Count() {
        TwinTables x = new TwinTables(24);
        due("count() of an empty disk", x.count(), TwinTables.NONE);
        x.format(1);
        for (int i = 0; i < 8; i++) {
            due("count() behind " + i, x.count(), i);
            x.make(4 + i, 4 + i, 1, i, 0);
        }
        due("count() of all", x.count(), 8);
        x.remove(0);
        x.remove(5);
        due("count() of six", x.count(), 6);
        x.poke(3, 384 + 20, 1);
        due("count() of copy 1", x.count(), 6);
    }

    private static void promise16Field() {
        TwinTables x = formatted(16);
        x.make(4, 5, 1, 1, 1);
        x.make(6, 9, -2, Long.MIN_VALUE, -3);
        long[] want = {6, 9, -3, -2, -2 * 2862933555777941757L + 3037000493L,
            Long.MIN_VALUE, Long.MIN_VALUE * 2862933555777941757L + 3037000493L};
        for (int what = 0; what < want.length; what++) {
            due("field(1, " + what + ")", x.field(1, what), want[what]);
            due("field(2, " + what + ") of a free entry", x.field(2, what), 0);
        }
        due("field(1, 7)", x.field(1, 7), 0);
        due("field(8, 0)", x.field(8, 0), 0);
        for (int v : EXTREMES) {
            due("field(1, " + v + ")", x.field(1, v), 0);
            due("field(" + v + ", 0)", x.field(v, 0), 0);
        }
        x.poke(3, 384 + 39, 128);
        x.seal(0);
        due("FIRST of a free entry with bytes", x.field(7, 0), Long.MIN_VALUE);
        x.poke(1, 0, 0);
        due("FIRST in copy 1", x.field(7, 0), 0);
        due("field(1, 1) of copy 1", x.field(1, 1), 9);
    }

    private static void promise17Letter() {
        TwinTables x = formatted(16);
        x.make(4, 5, 1, 1, 1);
        x.rename(0, 0, (char) 0xff80);
        x.rename(0, 35, 'z');
        due("letter(0, 0)", x.letter(0, 0), 0xff80);
        due("letter(0, 1)", x.letter(0, 1), 0);
        due("letter(0, 35)", x.letter(0, 35), 'z');
        due("letter(0, 36)", x.letter(0, 36), 0);
        due("letter(1, 0)", x.letter(1, 0), 0);
        due("letter(8, 0)", x.letter(8, 0), 0);
        for (int v : EXTREMES) {
            due("letter(0, " + v + ")", x.letter(0, v), 0);
            due("letter(" + v + ", 0)", x.letter(v, 0), 0);
        }
        x.poke(3, 384 + 56 + 71, 2);
        x.poke(3, 384 + 56 + 70, 1);
        x.seal(0);
        due("letter(7, 35) of a free entry with bytes", x.letter(7, 35), 0x201);
    }

    private static void promise18Room() {
        for (int n = 12; n <= 24; n++) {
            TwinTables x = new TwinTables(n);
            due("room() of an empty disk", x.room(), TwinTables.NONE);
            x.format(1);
            due("room() of " + n, x.room(), n - 7);
            x.make(4, 4, 1, 1, 1);
            due("room() without one", x.room(), n - 8);
            x.make(6, n - 4, 1, 2, 1);
            due("room() of one", x.room(), 1);
            x.move(0, 4, 5);
            due("room() of none", x.room(), 0);
            x.remove(1);
            due("room() behind remove", x.room(), n - 9);
            x.poke(2, 128 + 40, 9);
            x.seal(0);
            due("room() with bytes in a free entry", x.room(), n - 9);
        }
    }

    private static void promise19Sum() {
        TwinTables x = new TwinTables(14);
        byte[] block = new byte[512];
        for (int place = 0; place < 256; place++) {
            block[place * 2] = (byte) place;
            x.poke(13, place * 2, place);
        }
        int[][] parts = {{0, 512}, {0, 1}, {511, 1}, {256, 200}, {510, 2}, {1, 511}, {100, 0}};
        for (int[] p : parts) {
            byte[] some = java.util.Arrays.copyOfRange(block, p[0], p[0] + p[1]);
            due("sum(13, " + p[0] + ", " + p[1] + ")", x.sum(13, p[0], p[1]), crc(some));
        }
        for (int place = 0; place < 512; place += 4) {
            int one = x.sum(13, place, 1);
            if (one != crc(new byte[] {block[place]})) {
                due("sum(13, " + place + ", 1)", one, crc(new byte[] {block[place]}));
            }
        }
        wrongSums();
    }

    private static void wrongSums() {
        TwinTables x = formatted(14);
        due("sum(1, 512, 0)", x.sum(1, 512, 0), 0);
        due("sum(1, 512, 1)", x.sum(1, 512, 1), 0);
        due("sum(1, 513, 0)", x.sum(1, 513, 0), 0);
        due("sum(1, 1, 512)", x.sum(1, 1, 512), 0);
        due("sum(1, 0, 513)", x.sum(1, 0, 513), 0);
        due("sum(14, 0, 1)", x.sum(14, 0, 1), 0);
        due("sum(2, -1, 2)", x.sum(2, -1, 2), 0);
        due("sum(1, 513, -1)", x.sum(1, 513, -1), 0);
        for (int v : EXTREMES) {
            due("sum(" + v + ", 0, 1)", x.sum(v, 0, 1), 0);
            due("sum(1, " + v + ", 1)", x.sum(1, v, 1), 0);
            due("sum(1, 1, " + v + ")", x.sum(1, 1, v), 0);
            due("sum(1, " + v + ", " + v + ")", x.sum(1, v, v), 0);
        }
    }

    private static void withoutTable() {
        TwinTables x = formatted(16);
        x.make(4, 5, 6, 7, 8);
        x.rename(0, 0, 'a');
        x.poke(2, 127, 1);
        x.poke(13, 127, 1);
        int[] before = picture(x);
        due("source()", x.source(), TwinTables.NONE);
        due("make()", x.make(6, 6, 6, 6, 6), TwinTables.NO_TABLE);
        due("remove(0)", x.remove(0), false);
        due("rename(0, 0)", x.rename(0, 0, 'b'), false);
        due("move(0, 6, 6)", x.move(0, 6, 6), false);
        due("repair()", x.repair(), TwinTables.NONE);
        due("count()", x.count(), TwinTables.NONE);
        due("field(0, 0)", x.field(0, 0), 0);
        due("letter(0, 0)", x.letter(0, 0), 0);
        due("room()", x.room(), TwinTables.NONE);
        dueSame("a call without a table", x, before);
    }

    /** Every call that writes takes the table of the first sound copy and makes both copies whole. */
    private static void writingFromEitherCopy() {
        for (int broken = 0; broken < 2; broken++) {
            for (int call = 0; call < 5; call++) {
                TwinTables x = formatted(16);
                x.make(4, 5, 6, 7, 8);
                int header = broken == 0 ? 1 : 15;
                x.poke(broken == 0 ? 2 : 13, 300, 44);
                x.poke(header, 60, 44);
                x.poke(header, 300, 44);
                x.poke(0, 511, 0);
                byte[] want = entry(4, 5, 6, 7, 8, "");
                byte[] other = new byte[128];
                switch (call) {
                    case 0: x.make(6, 6, 1, 2, 3); other = entry(6, 6, 1, 2, 3, ""); break;
                    case 1: x.remove(0); want = new byte[128]; break;
                    case 2: x.rename(0, 0, 'w'); want = entry(4, 5, 6, 7, 8, "w"); break;
                    case 3: x.move(0, 5, 6); want = entry(5, 6, 6, 7, 8, ""); break;
                    default: x.repair(); break;
                }
                dueTable("call " + call + " without copy " + broken, x, guid(77), array(want, other));
                due("guard() behind call " + call, x.guard(), call == 4);
            }
        }
    }

    /** The bytes before and behind an array look like entries here; they are none. */
    private static void bytesBesideTheArrays() {
        byte[] beside = entry(10, 11, 5, 9, 5, "beside");
        for (int copy = 0; copy < 2; copy++) {
            TwinTables x = formatted(16);
            int before = copy == 0 ? 1 : 12;
            int behind = copy == 0 ? 4 : 15;
            for (int place = 0; place < 58; place++) {
                x.poke(before, 384 + place, beside[place]);
                if (copy == 0) {
                    x.poke(behind, place, beside[place]);
                }
            }
            x.poke(copy == 0 ? 15 : 1, 0, 0);
            due("source()", x.source(), copy);
            due("count() with bytes beside the array", x.count(), 0);
            due("room() with bytes beside the array", x.room(), 9);
            int[] ends = {-1, 8};
            for (int i : ends) {
                due("field(" + i + ", 0)", x.field(i, 0), 0);
                due("field(" + i + ", 3)", x.field(i, 3), 0);
                due("letter(" + i + ", 0)", x.letter(i, 0), 0);
                due("rename(" + i + ", 0)", x.rename(i, 0, 'x'), false);
                due("move(" + i + ", 5, 5)", x.move(i, 5, 5), false);
                due("remove(" + i + ")", x.remove(i), false);
            }
            due("make on blocks and with a mark told beside the array", x.make(10, 11, 1, 9, 0), 0);
            for (int place = 0; place < 58; place++) {
                x.poke(before, 384 + place, beside[place]);
            }
            due("fault(" + copy + ") with a partition told beside the array too", x.fault(copy), 0);
        }
    }
}
