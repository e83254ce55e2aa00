import java.util.Arrays;
import java.util.function.Consumer;

/**
 * The sentences of the promises 1 to 19 that name an edge, each by a test of its own, on disks of 12, 16 and 24
 * blocks. A name begins with the promise's number.
 */
public final class EdgesTest extends DiskChecks {
    private static final int[] NO_ENTRIES = {-1, 8, 9, LEAST, GREATEST};
    private static final int[] NO_LETTERS = {-1, 36, 37, LEAST, GREATEST};
    private static final int[] NO_PLACES = {-1, 512, 513, -512, LEAST, GREATEST};
    private static final int[] NO_COPIES = {-1, 2, 3, LEAST, GREATEST};

    public static void main(String[] args) throws IllegalAccessException {
        runAll(EdgesTest.class);
    }

    private static int[] noBlocks(int n) {
        return new int[] {-1, n, n + 1, 25, LEAST, GREATEST, 1 << 23, -(1 << 23)};
    }

    // ---- promise 1: a new object

    static void p01TakesEveryNumberFrom12To24() {
        for (int n = 12; n <= 24; n++) {
            TwinTables x = new TwinTables(n);
            due("blocks() of " + n, x.blocks(), n);
            due("peek in the last block of " + n, x.peek(n - 1, 511), 0);
            due("peek behind the last block of " + n, x.peek(n, 0), NONE);
        }
    }

    static void p01MakesItself16ForLessThan12() {
        for (int n : new int[] {11, 10, 1, 0, -1, -12, -16, LEAST + 12, LEAST}) {
            dueSixteenBlocks(n);
        }
    }

    static void p01MakesItself16ForMoreThan24() {
        for (int n : new int[] {25, 26, 32, 256 + 12, 65536 + 12, GREATEST}) {
            dueSixteenBlocks(n);
        }
    }

    private static void dueSixteenBlocks(int n) {
        TwinTables x = new TwinTables(n);
        due("blocks() of " + n, x.blocks(), 16);
        due("peek(15, 511) of " + n, x.peek(15, 511), 0);
        due("peek(16, 0) of " + n, x.peek(16, 0), NONE);
        x.format(1);
        due("room() of " + n, x.room(), 9);
    }

    static void p01EveryByteIs0(int n) {
        dueBytes("the making", bytesBehind(n, x -> { }), new byte[n * 512]);
    }

    static void p01ObjectsHaveDisksOfTheirOwn(int n) {
        TwinTables x = new TwinTables(n);
        TwinTables y = new TwinTables(n);
        x.format(1);
        x.poke(5, 5, 5);
        due("peek(5, 5) of the other", y.peek(5, 5), 0);
        due("source() of the other", y.source(), NONE);
    }

    // ---- promise 2: blocks

    static void p02IsNBehindEveryCall(int n) {
        for (Worn state : Worn.values()) {
            TwinTables x = state.disk(n);
            due("blocks()", x.blocks(), n);
            x.repair();
            due("blocks() behind repair()", x.blocks(), n);
            pokeNumber(x, 0, 458, 4, 5);
            pokeNumber(x, 1, 48, 8, 5);
            due("blocks() behind other numbers on the disk", x.blocks(), n);
        }
    }

    static void p02ReadingCallsChangeNothing(int n) {
        for (Worn state : Worn.values()) {
            dueBytes("the reading calls on " + state, bytesBehind(n, x -> {
                state.wear(x);
                x.blocks();
                x.peek(0, 510);
                x.guard();
                x.fault(0);
                x.fault(1);
                x.fault(2);
                x.source();
                x.count();
                x.field(0, 0);
                x.letter(0, 0);
                x.room();
                x.sum(1, 0, 512);
            }), state.bytes(n));
        }
    }

    // ---- promise 3: peek

    static void p03ReadsTheFirstAndLastPlaces(int n) {
        TwinTables x = new TwinTables(n);
        int[][] corners = {{0, 0, 1}, {0, 511, 2}, {1, 0, 3}, {n - 2, 511, 4}, {n - 1, 0, 5}, {n - 1, 511, 6}};
        for (int[] c : corners) {
            x.poke(c[0], c[1], c[2]);
        }
        for (int[] c : corners) {
            due("peek(" + c[0] + ", " + c[1] + ")", x.peek(c[0], c[1]), c[2]);
        }
        due("peek(0, 1)", x.peek(0, 1), 0);
        due("peek(n - 1, 510)", x.peek(n - 1, 510), 0);
    }

    static void p03AnswersEachByteFrom0To255(int n) {
        TwinTables x = new TwinTables(n);
        for (int v = 0; v < 256; v++) {
            x.poke(n - 1, 511, v);
            due("peek of " + v, x.peek(n - 1, 511), v);
        }
    }

    static void p03AnswersNoneForNoSuchBlock(int n) {
        TwinTables x = Worn.FRONT.disk(n);
        for (int block : noBlocks(n)) {
            for (int place : new int[] {0, 511, -512, 512}) {
                due("peek(" + block + ", " + place + ")", x.peek(block, place), NONE);
            }
        }
    }

    static void p03AnswersNoneForNoSuchPlace(int n) {
        TwinTables x = Worn.FRONT.disk(n);
        for (int place : NO_PLACES) {
            for (int block : new int[] {0, 1, n - 1}) {
                due("peek(" + block + ", " + place + ")", x.peek(block, place), NONE);
            }
        }
    }

    // ---- promise 4: poke

    static void p04SetsTheLowestEightBits(int n) {
        int[] values = {0, 1, 127, 128, 255, 256, 257, -1, -128, -256, 0x12345678, LEAST, GREATEST};
        for (int v : values) {
            TwinTables x = new TwinTables(n);
            x.poke(5, 9, 90);
            due("poke(5, 9, " + v + ")", x.poke(5, 9, v), true);
            due("its byte", x.peek(5, 9), Math.floorMod(v, 256));
        }
    }

    static void p04ChangesThatByteAlone(int n) {
        for (int[] at : new int[][] {{0, 0}, {0, 511}, {4, 300}, {n - 1, 0}, {n - 1, 511}}) {
            byte[] want = Worn.FRONT.bytes(n);
            want[at[0] * 512 + at[1]] = 99;
            due("poke", Worn.FRONT.disk(n).poke(at[0], at[1], 99), true);
            dueBytes("poke(" + at[0] + ", " + at[1] + ")", bytesBehind(n, x -> {
                Worn.FRONT.wear(x);
                x.poke(at[0], at[1], 99);
            }), want);
        }
    }

    static void p04IsTrueForTheByteThatStandsThere(int n) {
        TwinTables x = new TwinTables(n);
        due("poke(3, 3, 0)", x.poke(3, 3, 0), true);
        due("poke(3, 3, 256)", x.poke(3, 3, 256), true);
    }

    static void p04IsRefusedForNoSuchBlock(int n) {
        for (int block : noBlocks(n)) {
            dueRefused("poke(" + block + ", 0, 77)", n, Worn.FRONT, x -> bit(x.poke(block, 0, 77)), 0);
            dueRefused("poke(" + block + ", 511, 77)", n, Worn.FRONT, x -> bit(x.poke(block, 511, 77)), 0);
        }
    }

    static void p04IsRefusedForNoSuchPlace(int n) {
        for (int place : NO_PLACES) {
            dueRefused("poke(0, " + place + ", 77)", n, Worn.FRONT, x -> bit(x.poke(0, place, 77)), 0);
            dueRefused("poke(n - 1, " + place + ", 77)", n, Worn.FRONT, x -> bit(x.poke(n - 1, place, 77)), 0);
        }
    }

    // ---- promise 5: format

    static void p05WritesGuardAndEmptyTableForEveryLong(int n) {
        for (long disk : LONGS) {
            dueBytes("format(" + disk + ")", bytesBehind(n, x -> x.format(disk)), emptyTable(n, disk));
        }
    }

    static void p05MakesAllOtherBytesOfItsBlocks0AndLeavesTheUsable(int n) {
        int[][] places = {{0, 19, 91, 92}, {300, 445, 446, 451}, {453, 462, 509, 511}, {449, 450, 461, 510}};
        for (int[] some : places) {
            byte[] want = emptyTable(n, 5);
            for (int b = 4; b <= n - 4; b++) {
                for (int place : some) {
                    want[b * 512 + place] = (byte) 255;
                }
            }
            dueBytes("format on other bytes", bytesBehind(n, x -> {
                for (int b = 0; b < n; b++) {
                    for (int place : some) {
                        x.poke(b, place, 255);
                    }
                }
                x.format(5);
            }), want);
        }
    }

    static void p05TakesAwayAllPartitions(int n) {
        for (Worn state : Worn.values()) {
            byte[] want = withBlock(written(state.bytes(n), guid(-9), new byte[1024]), 0, guardBlock(n));
            dueBytes("format on " + state, bytesBehind(n, x -> {
                state.wear(x);
                x.format(-9);
            }), want);
            TwinTables x = state.disk(n);
            x.format(-9);
            due("count()", x.count(), 0);
            due("room()", x.room(), n - 7);
            due("guard()", x.guard(), true);
            due("repair()", x.repair(), 0);
        }
    }

    static void p05FormatAgainTakesTheNewMark(int n) {
        dueBytes("format(1), format(2)", bytesBehind(n, x -> {
            x.format(1);
            x.format(2);
        }), emptyTable(n, 2));
    }

    // ---- promise 6: seal

    /** Bytes of both copies that make all four sums wrong. */
    private static void breakSums(TwinTables x) {
        int n = x.blocks();
        for (int copy = 0; copy < 2; copy++) {
            pokeNumber(x, headerOf(n, copy), 16, 4, 0x01020304);
            pokeNumber(x, headerOf(n, copy), 88, 4, 0x05060708);
            x.poke(headerOf(n, copy), 56, 200);
            x.poke(arrayOf(n, copy), 0, 201);
            x.poke(arrayOf(n, copy) + 1, 511, 202);
        }
    }

    private static byte[] brokenSums(Worn state, int n) {
        byte[] disk = state.bytes(n);
        for (int copy = 0; copy < 2; copy++) {
            int header = headerOf(n, copy) * 512;
            for (int k = 0; k < 4; k++) {
                disk[header + 16 + k] = (byte) (4 - k);
                disk[header + 88 + k] = (byte) (8 - k);
            }
            disk[header + 56] = (byte) 200;
            disk[arrayOf(n, copy) * 512] = (byte) 201;
            disk[arrayOf(n, copy) * 512 + 1023] = (byte) 202;
        }
        return disk;
    }

    private static void putSum(byte[] disk, int at, int sum) {
        for (int k = 0; k < 4; k++) {
            disk[at + k] = (byte) (sum >>> 8 * k);
        }
    }

    private static byte[] sealed(byte[] disk, int n, int copy) {
        byte[] other = disk.clone();
        int header = headerOf(n, copy) * 512;
        int array = arrayOf(n, copy) * 512;
        putSum(other, header + 88, crc(Arrays.copyOfRange(other, array, array + 1024)));
        putSum(other, header + 16, 0);
        putSum(other, header + 16, crc(Arrays.copyOfRange(other, header, header + 92)));
        return other;
    }

    static void p06WritesBothSumsOfThatCopyAlone(int n) {
        for (Worn state : Worn.values()) {
            for (int copy = 0; copy < 2; copy++) {
                int chosen = copy;
                TwinTables y = state.disk(n);
                breakSums(y);
                due("seal(" + copy + ")", y.seal(copy), true);
                byte[] got = bytesBehind(n, x -> {
                    state.wear(x);
                    breakSums(x);
                    x.seal(chosen);
                });
                dueBytes("seal(" + copy + ") on " + state, got, sealed(brokenSums(state, n), n, copy));
            }
        }
    }

    static void p06ArraysSumComesFirst(int n) {
        for (int copy = 0; copy < 2; copy++) {
            TwinTables x = formatted(n);
            x.poke(arrayOf(n, copy) + 1, 500, 1);
            due("seal(" + copy + ")", x.seal(copy), true);
            due("fault(" + copy + ") behind one seal", x.fault(copy), 0);
        }
    }

    static void p06WorksOnADiskWithoutTable(int n) {
        for (int copy = 0; copy < 2; copy++) {
            int chosen = copy;
            due("seal(" + copy + ")", new TwinTables(n).seal(copy), true);
            dueBytes("seal(" + copy + ")", bytesBehind(n, x -> x.seal(chosen)), sealed(new byte[n * 512], n, copy));
        }
    }

    static void p06OfASealedCopyIsTrueAndChangesNothing(int n) {
        for (int copy = 0; copy < 2; copy++) {
            int chosen = copy;
            dueRefused("seal(" + copy + ")", n, Worn.FRONT, x -> bit(x.seal(chosen)), 1);
        }
    }

    static void p06IsRefusedForNoSuchCopy(int n) {
        for (int copy : NO_COPIES) {
            TwinTables y = Worn.FRONT.disk(n);
            breakSums(y);
            due("seal(" + copy + ")", y.seal(copy), false);
            byte[] got = bytesBehind(n, x -> {
                Worn.FRONT.wear(x);
                breakSums(x);
                x.seal(copy);
            });
            dueBytes("seal(" + copy + ")", got, brokenSums(Worn.FRONT, n));
        }
    }

    // ---- promise 7: guard

    static void p07IsFalseOnANewDisk(int n) {
        due("guard()", new TwinTables(n).guard(), false);
    }

    static void p07IsTrueBehindFormat(int n) {
        due("guard()", formatted(n).guard(), true);
    }

    static void p07DoesNotAskForATable(int n) {
        TwinTables x = new TwinTables(n);
        pokeNonZero(x, 0, guardBlock(n), 0);
        due("guard() without a table", x.guard(), true);
        TwinTables y = formatted(n);
        y.poke(0, 511, 0);
        due("guard() with a table", y.guard(), false);
    }

    static void p07IsFalseForTheGuardOfAnotherSize(int n) {
        TwinTables x = new TwinTables(n);
        pokeNonZero(x, 0, guardBlock(n == 24 ? 12 : 24), 0);
        due("guard()", x.guard(), false);
    }

    static void p07IsFalseIfTheRecordStandsInAnotherPlace(int n) {
        for (int record = 1; record < 4; record++) {
            TwinTables x = formatted(n);
            for (int k = 0; k < 16; k++) {
                x.poke(0, 446 + 16 * record + k, x.peek(0, 446 + k));
            }
            due("guard() with the record twice", x.guard(), false);
            for (int k = 0; k < 16; k++) {
                x.poke(0, 446 + k, 0);
            }
            due("guard() with record " + record + " alone", x.guard(), false);
        }
    }

    // ---- promise 8: fault (its seven kinds and their order are in TermsTest)

    static void p08AnswersNoneForNoSuchCopy(int n) {
        for (Worn state : Worn.values()) {
            for (int copy : NO_COPIES) {
                due("fault(" + copy + ") on " + state, state.disk(n).fault(copy), NONE);
            }
        }
    }

    static void p08AnswersForEachCopyAlone(int n) {
        due("fault(0) on FRONT", Worn.FRONT.disk(n).fault(0), 0);
        due("fault(1) on FRONT", Worn.FRONT.disk(n).fault(1), 0);
        due("fault(0) on BACK", Worn.BACK.disk(n).fault(0), 1);
        due("fault(1) on BACK", Worn.BACK.disk(n).fault(1), 0);
        due("fault(0) on LOST", Worn.LOST.disk(n).fault(0), 6);
        due("fault(1) on LOST", Worn.LOST.disk(n).fault(1), 3);
    }

    // ---- promise 9: source

    static void p09IsTheFirstSoundCopy(int n) {
        due("source() with both", formatted(n).source(), 0);
        TwinTables x = formatted(n);
        flip(x, n - 1, 0);
        due("source() without copy 1", x.source(), 0);
        TwinTables y = formatted(n);
        flip(y, 1, 0);
        due("source() without copy 0", y.source(), 1);
    }

    static void p09IsNoneWithoutATable(int n) {
        due("source() of a new disk", new TwinTables(n).source(), NONE);
        due("source() of a lost table", Worn.LOST.disk(n).source(), NONE);
    }

    static void p09DoesNotAskForTheGuard(int n) {
        TwinTables x = formatted(n);
        x.poke(0, 510, 0);
        due("source() without a guard", x.source(), 0);
    }

    // ---- promise 10: make

    private static void dueMade(int n, int first, int last, long type, long mark, long attributes) {
        for (Worn state : Worn.WITH_TABLE) {
            byte[] array = withEntry(state.array(n), 1, entry(first, last, type, mark, attributes, ""));
            dueWritten("make(" + first + ", " + last + ", " + type + ", " + mark + ", " + attributes + ")", n, state,
                x -> x.make(first, last, type, mark, attributes), 1, array);
        }
    }

    static void p10WritesEveryLongAsType(int n) {
        for (long type : LONGS) {
            if (type != 0) {
                dueMade(n, 5, 5, type, 10, 0);
            }
        }
    }

    static void p10WritesEveryLongAsMark(int n) {
        for (long mark : LONGS) {
            dueMade(n, 5, 6, 1, mark, 0);
        }
    }

    static void p10WritesEveryLongAsAttributes(int n) {
        for (long attributes : LONGS) {
            dueMade(n, 6, 6, 1, 10, attributes);
        }
    }

    static void p10TakesTheFirstAndLastFreeBlock(int n) {
        dueMade(n, 5, 5, 1, 10, 0);
        dueMade(n, n - 5, n - 5, 1, 10, 0);
        dueMade(n, 5, n - 5, 1, 10, 0);
    }

    static void p10TakesTheWholeOfTheUsableBlocks(int n) {
        TwinTables x = formatted(n);
        due("make(4, n - 4)", x.make(4, n - 4, 1, 1, 1), 0);
        due("field(0, 0)", x.field(0, 0), 4);
        due("field(0, 1)", x.field(0, 1), n - 4);
        due("room()", x.room(), 0);
    }

    static void p10MayHaveTheMarkAndBlocksOfAFreeEntry(int n) {
        dueMade(n, 5, 5, 1, 9, 0);
    }

    static void p10MayHaveTheTypeOfAnother(int n) {
        dueMade(n, 5, 5, 1, 1, 3);
    }

    static void p10TakesTheLowestFreeEntry(int n) {
        for (int hole = 0; hole < 5; hole++) {
            for (int other = hole + 1; other < 5; other++) {
                TwinTables x = formatted(n);
                for (int i = 0; i < 5; i++) {
                    x.make(4 + i, 4 + i, 1, i, 0);
                }
                x.remove(other);
                x.remove(hole);
                due("make with the entries " + hole + " and " + other + " free", x.make(4 + hole, 4 + hole, 1, 9, 0), hole);
                due("make with the entry " + other + " free", x.make(4 + other, 4 + other, 1, 10, 0), other);
            }
        }
    }

    static void p10TakesTheLastEntryToo(int n) {
        if (n < 16) {
            return;
        }
        TwinTables x = formatted(n);
        for (int i = 0; i < 8; i++) {
            due("make " + i, x.make(4 + i, 4 + i, 1, i, 0), i);
        }
    }

    static void p10OtherBytesOfTheEntryBecome0(int n) {
        byte[][] entries = new byte[n < 16 ? 5 : 8][];
        for (int i = 0; i < entries.length; i++) {
            entries[i] = entry(4 + i, 4 + i, 2, i, 4, "");
            int chosen = i;
            byte[] got = bytesBehind(n, x -> {
                x.format(77);
                for (int j = 0; j < chosen; j++) {
                    x.make(4 + j, 4 + j, 2, j, 4);
                }
                for (int k = 16; k < 128; k++) {
                    x.poke(2 + chosen / 4, chosen % 4 * 128 + k, 255);
                }
                x.seal(0);
                x.make(4 + chosen, 4 + chosen, 2, chosen, 4);
            });
            byte[] want = array(Arrays.copyOf(entries, i + 1));
            dueBytes("make in entry " + i + " over other bytes", got, written(emptyTable(n, 77), guid(77), want));
        }
    }

    private static void dueNotMade(String why, int n, int first, int last, long type, long mark, int answer) {
        for (Worn state : Worn.WITH_TABLE) {
            dueRefused("make(" + first + ", " + last + ", " + type + ", " + mark + ") " + why, n, state,
                x -> x.make(first, last, type, mark, -1), answer);
        }
    }

    static void p10IsRefusedWithoutTable(int n) {
        dueRefused("make", n, Worn.LOST, x -> x.make(5, 5, 1, 10, 0), TwinTables.NO_TABLE);
        due("make on a new disk", new TwinTables(n).make(4, 4, 1, 1, 1), TwinTables.NO_TABLE);
        dueBytes("make on a new disk", bytesBehind(n, x -> x.make(4, 4, 1, 1, 1)), new byte[n * 512]);
    }

    static void p10IsRefusedForType0(int n) {
        dueNotMade("of type 0", n, 5, 5, 0, 10, TwinTables.NO_TYPE);
    }

    static void p10IsRefusedForFirstLessThan4(int n) {
        for (int first : new int[] {3, 2, 1, 0, -1, LEAST + 5, LEAST}) {
            dueNotMade("", n, first, 5, 1, 10, TwinTables.BAD_RANGE);
        }
    }

    static void p10IsRefusedForLastMoreThanNMinus4(int n) {
        for (int last : new int[] {n - 3, n - 2, n - 1, n, 24, GREATEST}) {
            dueNotMade("", n, 5, last, 1, 10, TwinTables.BAD_RANGE);
        }
    }

    static void p10IsRefusedForFirstMoreThanLast(int n) {
        int[][] ranges = {{6, 5}, {7, 5}, {n - 4, 4}, {n - 5, 5}, {5, 4}, {5, -1}, {5, LEAST}, {GREATEST, 5}, {n - 3, n - 4},
            {GREATEST, LEAST}};
        for (int[] r : ranges) {
            dueNotMade("", n, r[0], r[1], 1, 10, TwinTables.BAD_RANGE);
        }
    }

    static void p10IsRefusedForTheLeastToTheGreatestInt(int n) {
        dueNotMade("", n, LEAST, GREATEST, 1, 10, TwinTables.BAD_RANGE);
        dueNotMade("", n, LEAST, LEAST, 1, 10, TwinTables.BAD_RANGE);
        dueNotMade("", n, GREATEST, GREATEST, 1, 10, TwinTables.BAD_RANGE);
    }

    static void p10IsRefusedForATakenBlock(int n) {
        int[][] ranges = {{4, 4}, {4, 5}, {4, n - 5}, {4, n - 4}, {5, n - 4}, {n - 5, n - 4}, {n - 4, n - 4}};
        for (int[] r : ranges) {
            dueNotMade("", n, r[0], r[1], 1, 10, TwinTables.TAKEN);
        }
    }

    static void p10IsRefusedForABlockOfAWiderOne(int n) {
        TwinTables x = formatted(n);
        x.make(5, 7, 1, 1, 1);
        int[][] ranges = {{4, 5}, {5, 5}, {6, 6}, {7, 7}, {7, 8}, {5, 7}, {4, 8}, {6, 8}, {4, 6}};
        for (int[] r : ranges) {
            due("make(" + r[0] + ", " + r[1] + ")", x.make(r[0], r[1], 1, 2, 1), TwinTables.TAKEN);
        }
        due("make(4, 4)", x.make(4, 4, 1, 2, 1), 1);
        due("make(8, 8)", x.make(8, 8, 1, 3, 1), 2);
    }

    static void p10IsRefusedForAMarkInUse(int n) {
        dueNotMade("", n, 5, 5, 1, 2, TwinTables.SAME_MARK);
        for (long mark : LONGS) {
            TwinTables x = formatted(n);
            x.make(4, 4, 1, mark, 1);
            due("make with the mark " + mark + " again", x.make(5, 5, 1, mark, 1), TwinTables.SAME_MARK);
            due("make with the mark beside " + mark, x.make(5, 5, 1, mark + 1, 1), 1);
        }
    }

    static void p10IsNotRefusedForHalfOfAMark(int n) {
        for (int k = 0; k < 16; k++) {
            TwinTables x = formatted(n);
            x.make(4, 4, 1, 10, 1);
            flip(x, 2, 16 + k);
            x.seal(0);
            due("make with a mark that has another byte " + k, x.make(5, 5, 1, 10, 1), 1);
        }
    }

    static void p10MarkMayBeAgainBehindRemove(int n) {
        TwinTables x = formatted(n);
        x.make(4, n - 4, 1, 10, 1);
        x.remove(0);
        due("make", x.make(4, n - 4, 1, 10, 1), 0);
    }

    /** Eight partitions of one block each, from block 4 on; block 12 is the first that is free. */
    private static void makeFull(TwinTables x) {
        x.format(77);
        for (int i = 0; i < 8; i++) {
            x.make(4 + i, 4 + i, 1, 100 + i, 0);
        }
        int n = x.blocks();
        x.poke(1, 92, 9);
        x.poke(n - 1, 511, 9);
        x.poke(0, 510, 9);
    }

    /** Less than 16 blocks have no block left when eight partitions are made. */
    static void p10IsRefusedWhenNoEntryIsFree(int n) {
        if (n < 16) {
            return;
        }
        TwinTables x = new TwinTables(n);
        makeFull(x);
        due("make with no entry free", x.make(12, n - 4, 1, 10, 0), TwinTables.FULL);
        byte[] before = bytesBehind(n, EdgesTest::makeFull);
        dueBytes("make with no entry free", bytesBehind(n, y -> {
            makeFull(y);
            y.make(12, n - 4, 1, 10, 0);
        }), before);
        for (int i = 0; i < 8; i++) {
            TwinTables y = new TwinTables(n);
            makeFull(y);
            y.remove(i);
            due("make with the entry " + i + " free", y.make(12, 12, 1, 10, 0), i);
        }
    }

    private static final int NO_TABLE = 1, NO_TYPE = 2, BAD_RANGE = 4, TAKEN = 8, SAME_MARK = 16, FULL = 32;

    /** Each set of the six reasons that can be together: the first of them is answered. */
    static void p10AnswersTheFirstReason(int n) {
        for (int why = 1; why < 64; why++) {
            if (n >= 16 || (why & FULL) == 0) {
                int reasons = why;
                Consumer<TwinTables> state = x -> makeFor(x, reasons);
                TwinTables x = new TwinTables(n);
                state.accept(x);
                int due = -1 - Integer.numberOfTrailingZeros(why);
                due("make with the reasons " + Integer.toBinaryString(why), makeWith(x, why), due);
                dueBytes("make with the reasons " + Integer.toBinaryString(why), bytesBehind(n, y -> {
                    state.accept(y);
                    makeWith(y, reasons);
                }), bytesBehind(n, state));
            }
        }
    }

    private static void makeFor(TwinTables x, int why) {
        if ((why & FULL) != 0) {
            makeFull(x);
        } else {
            Worn.FRONT.wear(x);
        }
        if ((why & NO_TABLE) != 0) {
            flip(x, 1, 20);
            flip(x, x.blocks() - 1, 20);
        }
    }

    private static int makeWith(TwinTables x, int why) {
        boolean full = (why & FULL) != 0;
        boolean taken = (why & TAKEN) != 0;
        int first = full ? 12 : 5;
        int last = first;
        if ((why & BAD_RANGE) != 0) {
            first = taken ? 3 : first + 1;
            last = taken ? 4 : last;
        } else if (taken) {
            first = 4;
        }
        long mark = (why & SAME_MARK) == 0 ? 10 : full ? 103 : 2;
        return x.make(first, last, (why & NO_TYPE) != 0 ? 0 : 1, mark, 0);
    }

    // ---- promise 11: remove

    static void p11AllBytesOfTheEntryBecome0(int n) {
        for (Worn state : Worn.WITH_TABLE) {
            for (int i : new int[] {0, 7}) {
                dueWritten("remove(" + i + ")", n, state, x -> bit(x.remove(i)), 1,
                    withEntry(state.array(n), i, new byte[128]));
            }
        }
    }

    static void p11TakesAwayEachEntryAlone(int n) {
        int many = n < 16 ? 5 : 8;
        for (int i = 0; i < many; i++) {
            TwinTables x = formatted(n);
            for (int j = 0; j < many; j++) {
                x.make(4 + j, 4 + j, 1, j, 0);
            }
            due("remove(" + i + ")", x.remove(i), true);
            for (int j = 0; j < many; j++) {
                due("field(" + j + ", 1) behind remove(" + i + ")", x.field(j, 1), i == j ? 0 : 4 + j);
            }
            due("count()", x.count(), many - 1);
        }
    }

    static void p11IsRefusedWithoutTable(int n) {
        dueRefused("remove(0)", n, Worn.LOST, x -> bit(x.remove(0)), 0);
        dueRefused("remove(7)", n, Worn.LOST, x -> bit(x.remove(7)), 0);
        due("remove(0) of a new disk", new TwinTables(n).remove(0), false);
    }

    static void p11IsRefusedForNoSuchEntry(int n) {
        for (Worn state : Worn.WITH_TABLE) {
            for (int i : NO_ENTRIES) {
                dueRefused("remove(" + i + ")", n, state, x -> bit(x.remove(i)), 0);
            }
        }
    }

    static void p11IsRefusedForAFreeEntry(int n) {
        for (Worn state : Worn.WITH_TABLE) {
            for (int i = 1; i < 7; i++) {
                int chosen = i;
                dueRefused("remove(" + i + ")", n, state, x -> bit(x.remove(chosen)), 0);
            }
        }
    }

    static void p11IsRefusedTheSecondTime(int n) {
        TwinTables x = formatted(n);
        x.make(4, 4, 1, 1, 1);
        due("remove(0)", x.remove(0), true);
        due("remove(0) again", x.remove(0), false);
        due("count()", x.count(), 0);
    }

    // ---- promise 12: rename

    static void p12WritesFirstAndLastCharacter(int n) {
        for (Worn state : Worn.WITH_TABLE) {
            for (int i : new int[] {0, 7}) {
                for (int k : new int[] {0, 1, 34, 35}) {
                    byte[] entry = entryIn(state.array(n), i);
                    entry[56 + 2 * k] = (byte) 0x34;
                    entry[57 + 2 * k] = (byte) 0x92;
                    dueWritten("rename(" + i + ", " + k + ")", n, state, x -> bit(x.rename(i, k, (char) 0x9234)), 1,
                        withEntry(state.array(n), i, entry));
                }
            }
        }
    }

    static void p12WritesLeastAndGreatestCharacter(int n) {
        for (int c : new int[] {0, 1, 127, 128, 255, 256, 32768, 65535}) {
            TwinTables x = formatted(n);
            x.make(4, 4, 1, 1, -1);
            x.rename(0, 5, (char) 0x5555);
            due("rename to " + c, x.rename(0, 5, (char) c), true);
            due("letter(0, 5)", x.letter(0, 5), c);
            due("its low byte", x.peek(2, 66), c % 256);
            due("its high byte", x.peek(2, 67), c / 256);
            due("its low byte in copy 1", x.peek(n - 3, 66), c % 256);
            due("its high byte in copy 1", x.peek(n - 3, 67), c / 256);
        }
    }

    static void p12ToTheCharacterThatStandsThereIsTrueAndWrites(int n) {
        for (Worn state : Worn.WITH_TABLE) {
            dueWritten("rename(0, 0, 'a')", n, state, x -> bit(x.rename(0, 0, 'a')), 1, state.array(n));
        }
    }

    static void p12IsRefusedWithoutTable(int n) {
        dueRefused("rename(0, 0)", n, Worn.LOST, x -> bit(x.rename(0, 0, 'x')), 0);
        dueRefused("rename(7, 35)", n, Worn.LOST, x -> bit(x.rename(7, 35, 'x')), 0);
        due("rename(0, 0) of a new disk", new TwinTables(n).rename(0, 0, 'x'), false);
    }

    static void p12IsRefusedForNoSuchEntry(int n) {
        for (Worn state : Worn.WITH_TABLE) {
            for (int i : NO_ENTRIES) {
                dueRefused("rename(" + i + ", 0)", n, state, x -> bit(x.rename(i, 0, 'x')), 0);
            }
        }
    }

    static void p12IsRefusedForAFreeEntry(int n) {
        for (Worn state : Worn.WITH_TABLE) {
            for (int i = 1; i < 7; i++) {
                int chosen = i;
                dueRefused("rename(" + i + ", 35)", n, state, x -> bit(x.rename(chosen, 35, 'x')), 0);
            }
        }
    }

    static void p12IsRefusedForNoSuchCharacter(int n) {
        for (Worn state : Worn.WITH_TABLE) {
            for (int k : NO_LETTERS) {
                dueRefused("rename(0, " + k + ")", n, state, x -> bit(x.rename(0, k, 'x')), 0);
                dueRefused("rename(7, " + k + ")", n, state, x -> bit(x.rename(7, k, 'x')), 0);
            }
        }
    }

    // ---- promise 13: move

    private static void dueMoved(int n, int i, int first, int last) {
        for (Worn state : Worn.WITH_TABLE) {
            byte[] entry = entryIn(state.array(n), i);
            Arrays.fill(entry, 32, 48, (byte) 0);
            entry[32] = (byte) first;
            entry[40] = (byte) last;
            dueWritten("move(" + i + ", " + first + ", " + last + ")", n, state, x -> bit(x.move(i, first, last)), 1,
                withEntry(state.array(n), i, entry));
        }
    }

    static void p13ChangesFirstAndLastAlone(int n) {
        dueMoved(n, 0, 5, 6);
        dueMoved(n, 7, 5, 6);
    }

    static void p13MayTakeTheFirstAndTheLastUsableBlock(int n) {
        dueMoved(n, 0, 4, n - 5);
        dueMoved(n, 7, 5, n - 4);
        TwinTables x = formatted(n);
        x.make(6, 6, 1, 1, 1);
        due("move(0, 4, n - 4)", x.move(0, 4, n - 4), true);
        due("move(0, 4, 4)", x.move(0, 4, 4), true);
        due("move(0, n - 4, n - 4)", x.move(0, n - 4, n - 4), true);
    }

    static void p13MayKeepItsOwnBlocks(int n) {
        dueMoved(n, 0, 4, 4);
        dueMoved(n, 0, 4, 5);
        dueMoved(n, 7, n - 4, n - 4);
        dueMoved(n, 7, n - 5, n - 4);
    }

    static void p13MayTakeTheBlocksOfAFreeEntry(int n) {
        dueMoved(n, 0, 5, n - 5);
    }

    private static void dueNotMoved(int n, int i, int first, int last) {
        for (Worn state : Worn.WITH_TABLE) {
            dueRefused("move(" + i + ", " + first + ", " + last + ")", n, state, x -> bit(x.move(i, first, last)), 0);
        }
    }

    static void p13IsRefusedWithoutTable(int n) {
        dueRefused("move(0, 5, 5)", n, Worn.LOST, x -> bit(x.move(0, 5, 5)), 0);
        due("move(0, 5, 5) of a new disk", new TwinTables(n).move(0, 5, 5), false);
    }

    static void p13IsRefusedForNoSuchEntry(int n) {
        for (int i : NO_ENTRIES) {
            dueNotMoved(n, i, 5, 5);
        }
    }

    static void p13IsRefusedForAFreeEntry(int n) {
        for (int i = 1; i < 7; i++) {
            dueNotMoved(n, i, 5, 5);
        }
    }

    static void p13IsRefusedForFirstLessThan4(int n) {
        for (int first : new int[] {3, 0, -1, LEAST + 5, LEAST}) {
            dueNotMoved(n, 0, first, 5);
        }
    }

    static void p13IsRefusedForLastMoreThanNMinus4(int n) {
        for (int last : new int[] {n - 3, n - 2, n, 24, GREATEST}) {
            dueNotMoved(n, 7, 5, last);
        }
    }

    static void p13IsRefusedForFirstMoreThanLast(int n) {
        int[][] ranges = {{6, 5}, {5, 4}, {n - 4, 4}, {5, -1}, {5, LEAST}, {GREATEST, 5}, {n - 3, n - 4}, {GREATEST, LEAST}};
        for (int[] r : ranges) {
            dueNotMoved(n, 0, r[0], r[1]);
        }
    }

    static void p13IsRefusedForTheLeastToTheGreatestInt(int n) {
        dueNotMoved(n, 0, LEAST, GREATEST);
        dueNotMoved(n, 0, LEAST, LEAST);
        dueNotMoved(n, 7, GREATEST, GREATEST);
    }

    static void p13IsRefusedForABlockOfAnother(int n) {
        dueNotMoved(n, 0, n - 4, n - 4);
        dueNotMoved(n, 0, 4, n - 4);
        dueNotMoved(n, 0, n - 5, n - 4);
        dueNotMoved(n, 7, 4, 4);
        dueNotMoved(n, 7, 4, 5);
        dueNotMoved(n, 7, 4, n - 4);
    }

    static void p13IsRefusedForABlockOfAWiderOne(int n) {
        TwinTables x = formatted(n);
        x.make(5, 7, 1, 1, 1);
        x.make(8, 8, 1, 2, 1);
        int[][] ranges = {{4, 5}, {5, 5}, {6, 6}, {7, 7}, {7, 8}, {5, 7}, {4, 8}, {6, 8}, {4, 6}};
        for (int[] r : ranges) {
            due("move(1, " + r[0] + ", " + r[1] + ")", x.move(1, r[0], r[1]), false);
        }
        due("move(1, 4, 4)", x.move(1, 4, 4), true);
        due("move(1, 8, 8)", x.move(1, 8, 8), true);
    }

    // ---- promise 14: repair

    /** A disk whose guard, copy 0 and copy 1 are damaged (bits 1, 2, 4), or whose copies differ (bit 8). */
    private static void damage(TwinTables x, int bits) {
        int n = x.blocks();
        x.format(77);
        x.make(5, 6, 7, 8, 9);
        x.poke(0, 3, 33);
        x.poke(1, 100, 34);
        x.poke(n - 1, 200, 35);
        x.poke(4, 4, 36);
        if ((bits & 1) != 0) {
            x.poke(0, 500, 37);
        }
        if ((bits & 2) != 0) {
            x.poke(2, 70, 38);
        }
        if ((bits & 4) != 0) {
            x.poke(n - 3, 72, 39);
        }
        if ((bits & 8) != 0) {
            x.poke(n - 2, 300, 40);
            x.seal(1);
        }
    }

    static void p14AnswersTheSumOfWhatItMended(int n) {
        for (int bits : new int[] {0, 1, 2, 3, 4, 5, 8, 9}) {
            TwinTables y = new TwinTables(n);
            damage(y, bits);
            due("repair() of " + bits, y.repair(), bits);
            due("repair() again", y.repair(), 0);
            byte[] want = bytesBehind(n, x -> damage(x, 0));
            if (bits > 1) {
                want = written(want, guid(77), array(entry(5, 6, 7, 8, 9, "")));
            }
            if (bits % 2 == 1) {
                want = withBlock(want, 0, guardBlock(n));
            }
            dueBytes("repair() of " + bits, bytesBehind(n, x -> {
                damage(x, bits);
                x.repair();
            }), want);
        }
    }

    static void p14OfAWholeDiskIs0AndChangesNothing(int n) {
        due("repair()", formatted(n).repair(), 0);
        dueBytes("repair() of a whole disk", bytesBehind(n, x -> {
            damage(x, 0);
            x.repair();
        }), bytesBehind(n, x -> damage(x, 0)));
    }

    static void p14IsRefusedWithoutTable(int n) {
        dueRefused("repair()", n, Worn.LOST, x -> x.repair(), NONE);
        due("repair() of a new disk", new TwinTables(n).repair(), NONE);
        dueBytes("repair() of a new disk", bytesBehind(n, x -> x.repair()), new byte[n * 512]);
        for (int bits : new int[] {6, 7}) {
            TwinTables y = new TwinTables(n);
            damage(y, bits);
            due("repair() of " + bits, y.repair(), NONE);
        }
    }

    static void p14TakesCopy0IfBothAreSoundAndDiffer(int n) {
        byte[] want = withBlock(written(Worn.FRONT.bytes(n), Worn.FRONT.mark(), Worn.FRONT.array(n)), 0, guardBlock(n));
        due("repair()", Worn.FRONT.disk(n).repair(), 9);
        dueBytes("repair()", bytesBehind(n, x -> {
            Worn.FRONT.wear(x);
            x.repair();
        }), want);
    }

    static void p14TakesCopy1IfCopy0IsNotSound(int n) {
        byte[] want = withBlock(written(Worn.BACK.bytes(n), Worn.BACK.mark(), Worn.BACK.array(n)), 0, guardBlock(n));
        due("repair()", Worn.BACK.disk(n).repair(), 3);
        dueBytes("repair()", bytesBehind(n, x -> {
            Worn.BACK.wear(x);
            x.repair();
        }), want);
    }

    static void p14OfADamagedCopyIsNot8ThoughTheyDiffer(int n) {
        for (int copy = 0; copy < 2; copy++) {
            TwinTables x = formatted(n);
            x.poke(arrayOf(n, copy), 400, 1);
            x.poke(headerOf(n, copy), 60, 1);
            due("repair() without copy " + copy, x.repair(), copy == 0 ? 2 : 4);
        }
    }

    static void p14SeesADifferenceInEachByteOfTheMarks(int n) {
        for (int copy = 0; copy < 2; copy++) {
            for (int place = 56; place < 72; place++) {
                TwinTables x = formatted(n);
                flip(x, headerOf(n, copy), place, 128);
                x.seal(copy);
                int want = x.peek(1, place);
                due("repair() of byte " + place + " in copy " + copy, x.repair(), 8);
                due("byte " + place + " of header 0", x.peek(1, place), want);
                due("byte " + place + " of header 1", x.peek(n - 1, place), want);
            }
        }
    }

    static void p14SeesADifferenceInEachByteOfTheEntries(int n) {
        for (int copy = 0; copy < 2; copy++) {
            for (int at = 0; at < 1024; at++) {
                int inEntry = at % 128;
                boolean partition = at < 128;
                boolean soundOnlyAsItIs = partition ? inEntry >= 32 && inEntry < 48 : inEntry < 16;
                if (!soundOnlyAsItIs) {
                    TwinTables x = formatted(n);
                    x.make(4, 4, 1, 2, 3);
                    int block = arrayOf(n, copy) + at / 512;
                    flip(x, block, at % 512, 64);
                    x.seal(copy);
                    due("repair() of byte " + at + " in array " + copy, x.repair(), 8);
                    due("repair() again", x.repair(), 0);
                }
            }
        }
    }

    static void p14SeesADifferenceInFirstAndLast(int n) {
        for (int copy = 0; copy < 2; copy++) {
            TwinTables x = formatted(n);
            x.make(5, 6, 1, 2, 3);
            x.poke(arrayOf(n, copy), 32, 6);
            x.seal(copy);
            due("repair() of another FIRST", x.repair(), 8);
            due("field(0, 0)", x.field(0, 0), copy == 0 ? 6 : 5);
            x.poke(arrayOf(n, copy), 40, 7);
            x.seal(copy);
            due("repair() of another LAST", x.repair(), 8);
            due("field(0, 1)", x.field(0, 1), copy == 0 ? 7 : 6);
        }
    }

    static void p14SeesNoDifferenceInBytesThatDoNotMatter(int n) {
        for (int copy = 0; copy < 2; copy++) {
            TwinTables x = formatted(n);
            for (int place = 92; place < 512; place++) {
                x.poke(headerOf(n, copy), place, place);
            }
            due("repair()", x.repair(), 0);
            due("byte 511 behind it", x.peek(headerOf(n, copy), 511), 255);
            x.poke(0, 511, 0);
            due("repair() of the guard alone", x.repair(), 1);
            due("byte 511 behind it", x.peek(headerOf(n, copy), 511), 255);
            due("guard()", x.guard(), true);
        }
    }

    static void p14LeavesAGoodGuardsOtherBytes(int n) {
        TwinTables x = formatted(n);
        x.poke(0, 0, 11);
        x.poke(0, 449, 12);
        x.poke(0, 451, 13);
        x.poke(1, 0, 0);
        due("repair()", x.repair(), 2);
        due("byte 0", x.peek(0, 0), 11);
        due("byte 449", x.peek(0, 449), 12);
        due("byte 451", x.peek(0, 451), 13);
    }

    // ---- promise 15: count

    static void p15CountsFrom0ToAll(int n) {
        int many = n < 16 ? 5 : 8;
        TwinTables x = formatted(n);
        for (int i = 0; i < many; i++) {
            due("count() with " + i, x.count(), i);
            x.make(4 + i, 4 + i, 1, i, 0);
        }
        due("count() with all", x.count(), many);
        for (int i = 0; i < many; i++) {
            x.remove(i);
            due("count() behind remove(" + i + ")", x.count(), many - 1 - i);
        }
    }

    static void p15CountsTheTablesCopyAlone(int n) {
        due("count() of copy 0", Worn.FRONT.disk(n).count(), 2);
        due("count() of copy 1", Worn.BACK.disk(n).count(), 2);
        TwinTables x = Worn.FRONT.disk(n);
        flip(x, 1, 0);
        due("count() of the other copy", x.count(), 1);
    }

    static void p15IsNoneWithoutTable(int n) {
        due("count() of a lost table", Worn.LOST.disk(n).count(), NONE);
        due("count() of a new disk", new TwinTables(n).count(), NONE);
    }

    // ---- promise 16: field

    static void p16AnswersEachFieldOfFirstAndLastEntry(int n) {
        long[] first = {4, 4, 3, 1, guidTail(1), 2, guidTail(2)};
        long[] last = {n - 4, n - 4, Long.MIN_VALUE, 0, 7L << 56, 5, 6L << 56};
        for (Worn state : Worn.WITH_TABLE) {
            for (int what = 0; what < 7; what++) {
                due("field(0, " + what + ") on " + state, state.disk(n).field(0, what), first[what]);
                due("field(7, " + what + ") on " + state, state.disk(n).field(7, what), last[what]);
            }
        }
    }

    static void p16AnswersEveryLong(int n) {
        for (long k : LONGS) {
            TwinTables x = formatted(n);
            x.make(4, 4, k == 0 ? 5 : k, k, k);
            due("field(0, 2)", x.field(0, 2), k);
            due("field(0, 3)", x.field(0, 3), k == 0 ? 5 : k);
            due("field(0, 4)", x.field(0, 4), guidTail(k == 0 ? 5 : k));
            due("field(0, 5)", x.field(0, 5), k);
            due("field(0, 6)", x.field(0, 6), guidTail(k));
        }
    }

    static void p16AnswersEachEntry(int n) {
        int many = n < 16 ? 5 : 8;
        TwinTables x = formatted(n);
        for (int i = 0; i < many; i++) {
            x.make(4 + i, 4 + i, 10 + i, 20 + i, 30 + i);
        }
        for (int i = 0; i < many; i++) {
            due("field(" + i + ", 0)", x.field(i, 0), 4 + i);
            due("field(" + i + ", 1)", x.field(i, 1), 4 + i);
            due("field(" + i + ", 2)", x.field(i, 2), 30 + i);
            due("field(" + i + ", 3)", x.field(i, 3), 10 + i);
            due("field(" + i + ", 5)", x.field(i, 5), 20 + i);
        }
    }

    static void p16AnswersAFreeEntrysBytes(int n) {
        long[] free = {4, n - 4, -1, 0, 0, 9, guidTail(9)};
        for (Worn state : Worn.WITH_TABLE) {
            for (int what = 0; what < 7; what++) {
                due("field(3, " + what + ") on " + state, state.disk(n).field(Worn.FREE_ENTRY, what), free[what]);
                due("field(1, " + what + ") on " + state, state.disk(n).field(1, what), 0);
            }
        }
    }

    static void p16Is0WithoutTable(int n) {
        for (int what = 0; what < 7; what++) {
            due("field(0, " + what + ")", Worn.LOST.disk(n).field(0, what), 0);
            due("field(7, " + what + ")", Worn.LOST.disk(n).field(7, what), 0);
        }
    }

    static void p16Is0ForNoSuchEntry(int n) {
        for (Worn state : Worn.WITH_TABLE) {
            TwinTables x = state.disk(n);
            for (int i : NO_ENTRIES) {
                for (int what = 0; what < 7; what++) {
                    due("field(" + i + ", " + what + ") on " + state, x.field(i, what), 0);
                }
            }
        }
    }

    static void p16Is0ForNoSuchField(int n) {
        for (Worn state : Worn.WITH_TABLE) {
            TwinTables x = state.disk(n);
            for (int what : new int[] {-1, 7, 8, LEAST, GREATEST}) {
                due("field(0, " + what + ") on " + state, x.field(0, what), 0);
                due("field(7, " + what + ") on " + state, x.field(7, what), 0);
            }
        }
    }

    // ---- promise 17: letter

    static void p17AnswersFirstAndLastCharacter(int n) {
        for (Worn state : Worn.WITH_TABLE) {
            due("letter(0, 0) on " + state, state.disk(n).letter(0, 0), 'a');
            due("letter(0, 1) on " + state, state.disk(n).letter(0, 1), 0);
            due("letter(0, 35) on " + state, state.disk(n).letter(0, 35), 0);
            due("letter(7, 0) on " + state, state.disk(n).letter(7, 0), 0);
            due("letter(7, 34) on " + state, state.disk(n).letter(7, 34), 0);
            due("letter(7, 35) on " + state, state.disk(n).letter(7, 35), 0xfedc);
        }
    }

    static void p17AnswersEachCharacter(int n) {
        TwinTables x = formatted(n);
        x.make(4, 4, 1, 1, -1);
        for (int k = 0; k < 36; k++) {
            x.rename(0, k, (char) (65535 - 257 * k));
        }
        for (int k = 0; k < 36; k++) {
            due("letter(0, " + k + ")", x.letter(0, k), 65535 - 257 * k);
        }
    }

    static void p17AnswersAFreeEntrysBytes(int n) {
        for (Worn state : Worn.WITH_TABLE) {
            due("letter(3, 0) on " + state, state.disk(n).letter(Worn.FREE_ENTRY, 0), 'i');
            due("letter(3, 10) on " + state, state.disk(n).letter(Worn.FREE_ENTRY, 10), 'e');
            due("letter(1, 0) on " + state, state.disk(n).letter(1, 0), 0);
        }
    }

    static void p17Is0WithoutTable(int n) {
        due("letter(0, 0)", Worn.LOST.disk(n).letter(0, 0), 0);
        due("letter(7, 35)", Worn.LOST.disk(n).letter(7, 35), 0);
    }

    static void p17Is0ForNoSuchEntry(int n) {
        for (Worn state : Worn.WITH_TABLE) {
            TwinTables x = state.disk(n);
            for (int i : NO_ENTRIES) {
                for (int k = 0; k < 36; k++) {
                    due("letter(" + i + ", " + k + ") on " + state, x.letter(i, k), 0);
                }
            }
        }
    }

    static void p17Is0ForNoSuchCharacter(int n) {
        for (Worn state : Worn.WITH_TABLE) {
            TwinTables x = state.disk(n);
            for (int k : NO_LETTERS) {
                due("letter(0, " + k + ") on " + state, x.letter(0, k), 0);
                due("letter(7, " + k + ") on " + state, x.letter(7, k), 0);
                due("letter(3, " + k + ") on " + state, x.letter(3, k), 0);
            }
        }
    }

    // ---- promise 18: room

    static void p18IsAllUsableBlocksOfAnEmptyTable(int n) {
        due("room()", formatted(n).room(), n - 7);
    }

    static void p18Is0WhenAllAreTaken(int n) {
        TwinTables x = formatted(n);
        x.make(4, n - 5, 1, 1, 1);
        due("room() of one", x.room(), 1);
        x.make(n - 4, n - 4, 1, 2, 1);
        due("room() of none", x.room(), 0);
        x.remove(0);
        due("room() behind remove(0)", x.room(), n - 8);
    }

    static void p18DoesNotCountFreeEntries(int n) {
        for (Worn state : Worn.WITH_TABLE) {
            due("room() on " + state, state.disk(n).room(), n - 9);
        }
    }

    static void p18CountsTheTablesCopyAlone(int n) {
        TwinTables x = Worn.FRONT.disk(n);
        flip(x, 1, 0);
        due("room() of the other copy", x.room(), n - 8);
    }

    static void p18IsNoneWithoutTable(int n) {
        due("room() of a lost table", Worn.LOST.disk(n).room(), NONE);
        due("room() of a new disk", new TwinTables(n).room(), NONE);
    }

    // ---- promise 19: sum

    private static final int[][] PARTS = {{0, 0}, {0, 1}, {0, 511}, {0, 512}, {1, 511}, {256, 256}, {511, 0}, {511, 1},
        {512, 0}, {510, 2}, {92, 420}};

    static void p19SumsEachPartThatIsInTheBlock(int n) {
        byte[] disk = Worn.FRONT.bytes(n);
        TwinTables x = Worn.FRONT.disk(n);
        for (int block : new int[] {0, 1, 2, n - 2, n - 1}) {
            for (int[] p : PARTS) {
                int at = block * 512 + p[0];
                due("sum(" + block + ", " + p[0] + ", " + p[1] + ")", x.sum(block, p[0], p[1]),
                    crc(Arrays.copyOfRange(disk, at, at + p[1])));
            }
        }
    }

    static void p19Is0ForNoSuchBlock(int n) {
        TwinTables x = Worn.FRONT.disk(n);
        for (int block : noBlocks(n)) {
            for (int place : new int[] {0, 511, 512, -512}) {
                due("sum(" + block + ", " + place + ", 1)", x.sum(block, place, 1), 0);
                due("sum(" + block + ", " + place + ", 0)", x.sum(block, place, 0), 0);
            }
        }
    }

    static void p19Is0ForNoSuchPlace(int n) {
        TwinTables x = Worn.FRONT.disk(n);
        for (int place : new int[] {-1, -512, 513, 514, LEAST, GREATEST}) {
            for (int many : new int[] {0, 1, 2, 512, GREATEST}) {
                due("sum(1, " + place + ", " + many + ")", x.sum(1, place, many), 0);
            }
        }
    }

    static void p19Is0ForBytesBehindTheBlock(int n) {
        TwinTables x = Worn.FRONT.disk(n);
        int[][] parts = {{0, 513}, {1, 512}, {511, 2}, {512, 1}, {0, GREATEST}, {512, GREATEST}, {1, GREATEST}, {256, 257}};
        for (int block : new int[] {0, 1, n - 1}) {
            for (int[] p : parts) {
                due("sum(" + block + ", " + p[0] + ", " + p[1] + ")", x.sum(block, p[0], p[1]), 0);
            }
        }
    }

    static void p19Is0ForLessThan0Bytes(int n) {
        TwinTables x = Worn.FRONT.disk(n);
        for (int many : new int[] {-1, -512, LEAST, LEAST + 1}) {
            for (int place : new int[] {0, 1, 511, 512, 513, GREATEST}) {
                due("sum(1, " + place + ", " + many + ")", x.sum(1, place, many), 0);
            }
        }
    }

    static void p19AsksForNoTable(int n) {
        TwinTables x = new TwinTables(n);
        due("sum of four bytes of a new disk", x.sum(n - 1, 508, 4), crc(new byte[4]));
    }
}
