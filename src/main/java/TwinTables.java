/**
 * A disk with its table of partitions kept twice, at its beginning and at its end.
 * No call makes an object: every table is changed where it lies on the disk, so that
 * a run of calls needs no more memory than the constructor took.
 */
public final class TwinTables {
    public static final int NONE = -1;
    public static final int NO_TABLE = -1, NO_TYPE = -2, BAD_RANGE = -3, TAKEN = -4, SAME_MARK = -5, FULL = -6;

    private static final int LEAST_BLOCKS = 12, MOST_BLOCKS = 24, USUAL_BLOCKS = 16;
    private static final int BLOCK_BYTES = 512;
    private static final int FIRST_USABLE = 4;

    private final int n;
    private final Bytes bytes;
    private final Copy front;
    private final Copy back;

    public TwinTables(int blocks) {
        n = blocks < LEAST_BLOCKS || blocks > MOST_BLOCKS ? USUAL_BLOCKS : blocks;
        bytes = new Bytes(n * BLOCK_BYTES);
        front = new Copy(bytes, n, 0);
        back = new Copy(bytes, n, 1);
    }

    public int blocks() {
        return n;
    }

    public int peek(int block, int place) {
        return isPlace(block, place) ? bytes.byteAt(block * BLOCK_BYTES + place) : NONE;
    }

    public boolean poke(int block, int place, int v) {
        if (!isPlace(block, place)) {
            return false;
        }
        bytes.setNumber(block * BLOCK_BYTES + place, 1, v);
        return true;
    }

    public void format(long disk) {
        writeGuard();
        front.clearEntries();
        front.setDiskMark(disk);
        writeTable(front);
    }

    public boolean seal(int copy) {
        Copy chosen = copyNumber(copy);
        if (chosen == null) {
            return false;
        }
        chosen.writeSums();
        return true;
    }

    public boolean guard() {
        return bytes.byteAt(Guard.END) == Guard.END_LOW
            && bytes.byteAt(Guard.END + 1) == Guard.END_HIGH
            && bytes.byteAt(Guard.KIND) == Guard.KIND_VALUE
            && bytes.number(Guard.START, 4) == 1
            && bytes.number(Guard.LENGTH, 4) == n - 1
            && bytes.isZero(Guard.OTHER_RECORDS, Guard.END - Guard.OTHER_RECORDS);
    }

    public int fault(int copy) {
        Copy chosen = copyNumber(copy);
        return chosen == null ? NONE : chosen.firstFault();
    }

    public int source() {
        Copy table = table();
        return table == null ? NONE : table.index;
    }

    public int make(int first, int last, long type, long mark, long attributes) {
        Copy table = table();
        if (table == null) {
            return NO_TABLE;
        }
        if (type == 0) {
            return NO_TYPE;
        }
        if (!table.isUsable(first, last)) {
            return BAD_RANGE;
        }
        if (table.isTaken(first, last, NONE)) {
            return TAKEN;
        }
        if (table.isMarkUsed(mark, guidTail(mark))) {
            return SAME_MARK;
        }
        int i = table.lowestFree();
        if (i == NONE) {
            return FULL;
        }
        table.clearEntry(i);
        table.setGuid(i, Entry.TYPE, type);
        table.setGuid(i, Entry.MARK, mark);
        table.setRange(i, first, last);
        table.setLong(i, Entry.ATTRIBUTES, attributes);
        writeTable(table);
        return i;
    }

    public boolean remove(int i) {
        Copy table = table();
        if (!isPartition(table, i)) {
            return false;
        }
        table.clearEntry(i);
        writeTable(table);
        return true;
    }

    public boolean rename(int i, int k, char c) {
        Copy table = table();
        if (!isPartition(table, i) || !isLetter(k)) {
            return false;
        }
        table.setLetter(i, k, c);
        writeTable(table);
        return true;
    }

    public boolean move(int i, int first, int last) {
        Copy table = table();
        if (!isPartition(table, i) || !table.isUsable(first, last) || table.isTaken(first, last, i)) {
            return false;
        }
        table.setRange(i, first, last);
        writeTable(table);
        return true;
    }

    public int repair() {
        boolean frontSound = front.firstFault() == 0;
        boolean backSound = back.firstFault() == 0;
        if (!frontSound && !backSound) {
            return NONE;
        }
        int tables = (frontSound ? 0 : 2) + (backSound ? 0 : 4);
        if (tables == 0 && !front.isLike(back)) {
            tables = 8;
        }
        if (tables != 0) {
            writeTable(frontSound ? front : back);
        }
        if (guard()) {
            return tables;
        }
        writeGuard();
        return tables + 1;
    }

    public int count() {
        Copy table = table();
        return table == null ? NONE : table.partitions();
    }

    public long field(int i, int what) {
        Copy table = table();
        if (table == null || !isEntry(i)) {
            return 0;
        }
        switch (what) {
            case 0: return table.getLong(i, Entry.FIRST);
            case 1: return table.getLong(i, Entry.LAST);
            case 2: return table.getLong(i, Entry.ATTRIBUTES);
            case 3: return table.getLong(i, Entry.TYPE);
            case 4: return table.getLong(i, Entry.TYPE + 8);
            case 5: return table.getLong(i, Entry.MARK);
            case 6: return table.getLong(i, Entry.MARK + 8);
            default: return 0;
        }
    }

    public char letter(int i, int k) {
        Copy table = table();
        return table == null || !isEntry(i) || !isLetter(k) ? 0 : table.getLetter(i, k);
    }

    public int room() {
        Copy table = table();
        return table == null ? NONE : table.unusedBlocks();
    }

    public int sum(int block, int place, int many) {
        // The rest of the block is what many is held against, because place + many could wrap.
        if (!isBlock(block) || place < 0 || place > BLOCK_BYTES || many < 0 || many > BLOCK_BYTES - place) {
            return 0;
        }
        return bytes.sumOf(block * BLOCK_BYTES + place, many);
    }

    private boolean isBlock(int block) {
        return block >= 0 && block < n;
    }

    private boolean isPlace(int block, int place) {
        return isBlock(block) && place >= 0 && place < BLOCK_BYTES;
    }

    private static boolean isEntry(int i) {
        return i >= 0 && i < Entry.MANY;
    }

    private static boolean isLetter(int k) {
        return k >= 0 && k < Entry.LETTERS;
    }

    private static boolean isPartition(Copy table, int i) {
        return table != null && isEntry(i) && !table.isFree(i);
    }

    private static long guidTail(long k) {
        return k * 2862933555777941757L + 3037000493L;
    }

    private Copy copyNumber(int copy) {
        if (copy == 0) {
            return front;
        }
        return copy == 1 ? back : null;
    }

    private Copy table() {
        if (front.firstFault() == 0) {
            return front;
        }
        return back.firstFault() == 0 ? back : null;
    }

    private void writeTable(Copy table) {
        front.write(table);
        back.write(table);
    }

    private void writeGuard() {
        bytes.clear(0, BLOCK_BYTES);
        bytes.setNumber(Guard.KIND, 1, Guard.KIND_VALUE);
        bytes.setNumber(Guard.START, 4, 1);
        bytes.setNumber(Guard.LENGTH, 4, n - 1);
        bytes.setNumber(Guard.END, 1, Guard.END_LOW);
        bytes.setNumber(Guard.END + 1, 1, Guard.END_HIGH);
    }

    /** Where the guard's bytes lie in block 0. */
    private static final class Guard {
        static final int KIND = 450, START = 454, LENGTH = 458, OTHER_RECORDS = 462, END = 510;
        static final int KIND_VALUE = 238, END_LOW = 85, END_HIGH = 170;
    }

    /** Where the fields of a header lie in its block. */
    private static final class Header {
        static final int SIGNATURE = 0, VERSION = 8, SIZE = 12, OWN_SUM = 16, RESERVED = 20;
        static final int OWN_BLOCK = 24, OTHER_BLOCK = 32, USABLE_FROM = 40, USABLE_TO = 48;
        static final int DISK_MARK = 56, ARRAY_BLOCK = 72, ENTRIES = 80, ENTRY_SIZE = 84, ARRAY_SUM = 88;
        static final int BYTES = 92;
        /** The characters EFI PART as a field of 8 bytes, E being the lowest. */
        static final long SIGNATURE_VALUE = 0x5452415020494645L;
        static final int VERSION_VALUE = 65536;
    }

    /** Where the fields of an entry lie in it. */
    private static final class Entry {
        static final int TYPE = 0, MARK = 16, FIRST = 32, LAST = 40, ATTRIBUTES = 48, NAME = 56;
        static final int GUID_BYTES = 16, BYTES = 128, MANY = 8, LETTERS = 36;
    }

    /** All bytes of the disk in one row, with the fields and the sums in it. */
    private static final class Bytes {
        /** What four steps of the sum make of the lowest four bits, so that a byte takes two looks and not eight steps. */
        private static final int[] FOUR_STEPS = {
            0x00000000, 0x1db71064, 0x3b6e20c8, 0x26d930ac, 0x76dc4190, 0x6b6b51f4, 0x4db26158, 0x5005713c,
            0xedb88320, 0xf00f9344, 0xd6d6a3e8, 0xcb61b38c, 0x9b64c2b0, 0x86d3d2d4, 0xa00ae278, 0xbdbdf21c
        };

        private final byte[] row;

        Bytes(int size) {
            row = new byte[size];
        }

        int byteAt(int at) {
            return row[at] & 255;
        }

        long number(int at, int size) {
            long value = 0;
            for (int k = size - 1; k >= 0; k--) {
                value = (value << 8) | (row[at + k] & 255);
            }
            return value;
        }

        void setNumber(int at, int size, long value) {
            for (int k = 0; k < size; k++) {
                row[at + k] = (byte) (value >>> (8 * k));
            }
        }

        boolean isZero(int at, int many) {
            for (int k = 0; k < many; k++) {
                if (row[at + k] != 0) {
                    return false;
                }
            }
            return true;
        }

        boolean areAlike(int at, int other, int many) {
            for (int k = 0; k < many; k++) {
                if (row[at + k] != row[other + k]) {
                    return false;
                }
            }
            return true;
        }

        void clear(int at, int many) {
            for (int k = 0; k < many; k++) {
                row[at + k] = 0;
            }
        }

        void carry(int from, int to, int many) {
            System.arraycopy(row, from, row, to, many);
        }

        int sumOf(int at, int many) {
            return -1 - addBytes(-1, at, many);
        }

        /** The sum of some bytes, as if those of one field of 4 bytes among them were 0. */
        int sumWithout(int field, int at, int many) {
            int s = addBytes(-1, at, field - at);
            for (int k = 0; k < 4; k++) {
                s = addByte(s, 0);
            }
            return -1 - addBytes(s, field + 4, at + many - field - 4);
        }

        private int addBytes(int s, int at, int many) {
            int next = s;
            for (int k = 0; k < many; k++) {
                next = addByte(next, row[at + k] & 255);
            }
            return next;
        }

        private static int addByte(int s, int value) {
            int mixed = s ^ value;
            int half = (mixed >>> 4) ^ FOUR_STEPS[mixed & 15];
            return (half >>> 4) ^ FOUR_STEPS[half & 15];
        }
    }

    /** One of the two copies: a header and an array of entries at their places on the disk. */
    private static final class Copy {
        private static final int ARRAY_BYTES = Entry.MANY * Entry.BYTES;

        private final int index;
        private final Bytes bytes;
        private final int ownBlock;
        private final int otherBlock;
        private final int arrayBlock;
        private final int lastUsable;
        private final int header;
        private final int array;

        Copy(Bytes bytes, int n, int index) {
            this.index = index;
            this.bytes = bytes;
            ownBlock = index == 0 ? 1 : n - 1;
            otherBlock = index == 0 ? n - 1 : 1;
            arrayBlock = index == 0 ? 2 : n - 3;
            lastUsable = n - 4;
            header = ownBlock * BLOCK_BYTES;
            array = arrayBlock * BLOCK_BYTES;
        }

        int firstFault() {
            if (bytes.number(header + Header.SIGNATURE, 8) != Header.SIGNATURE_VALUE) {
                return 1;
            }
            if (!isKindRight()) {
                return 2;
            }
            if ((int) bytes.number(header + Header.OWN_SUM, 4) != headerSum()) {
                return 3;
            }
            if (bytes.number(header + Header.OWN_BLOCK, 8) != ownBlock) {
                return 4;
            }
            if (!isLayoutRight()) {
                return 5;
            }
            if ((int) bytes.number(header + Header.ARRAY_SUM, 4) != arraySum()) {
                return 6;
            }
            return areEntriesRight() ? 0 : 7;
        }

        private boolean isKindRight() {
            return bytes.number(header + Header.VERSION, 4) == Header.VERSION_VALUE
                && bytes.number(header + Header.SIZE, 4) == Header.BYTES
                && bytes.number(header + Header.RESERVED, 4) == 0;
        }

        private boolean isLayoutRight() {
            return bytes.number(header + Header.OTHER_BLOCK, 8) == otherBlock
                && bytes.number(header + Header.USABLE_FROM, 8) == FIRST_USABLE
                && bytes.number(header + Header.USABLE_TO, 8) == lastUsable
                && bytes.number(header + Header.ARRAY_BLOCK, 8) == arrayBlock
                && bytes.number(header + Header.ENTRIES, 4) == Entry.MANY
                && bytes.number(header + Header.ENTRY_SIZE, 4) == Entry.BYTES;
        }

        private boolean areEntriesRight() {
            for (int i = 0; i < Entry.MANY; i++) {
                long first = getLong(i, Entry.FIRST);
                long last = getLong(i, Entry.LAST);
                if (!isFree(i) && (!isUsable(first, last) || isTaken(first, last, i) || isMarkRepeated(i))) {
                    return false;
                }
            }
            return true;
        }

        private boolean isMarkRepeated(int i) {
            int mark = placeOf(i) + Entry.MARK;
            for (int k = 0; k < i; k++) {
                if (!isFree(k) && bytes.areAlike(placeOf(k) + Entry.MARK, mark, Entry.GUID_BYTES)) {
                    return true;
                }
            }
            return false;
        }

        private int headerSum() {
            return bytes.sumWithout(header + Header.OWN_SUM, header, Header.BYTES);
        }

        private int arraySum() {
            return bytes.sumOf(array, ARRAY_BYTES);
        }

        /** The array's sum is one of the header's bytes, so it comes first. */
        void writeSums() {
            bytes.setNumber(header + Header.ARRAY_SUM, 4, arraySum());
            bytes.setNumber(header + Header.OWN_SUM, 4, headerSum());
        }

        void write(Copy table) {
            // Read before the header is cleared, because the table may be this copy's own.
            long mark = table.diskMark();
            long markTail = table.diskMarkTail();
            bytes.carry(table.array, array, ARRAY_BYTES);
            bytes.clear(header, BLOCK_BYTES);
            bytes.setNumber(header + Header.SIGNATURE, 8, Header.SIGNATURE_VALUE);
            bytes.setNumber(header + Header.VERSION, 4, Header.VERSION_VALUE);
            bytes.setNumber(header + Header.SIZE, 4, Header.BYTES);
            bytes.setNumber(header + Header.OWN_BLOCK, 8, ownBlock);
            bytes.setNumber(header + Header.OTHER_BLOCK, 8, otherBlock);
            bytes.setNumber(header + Header.USABLE_FROM, 8, FIRST_USABLE);
            bytes.setNumber(header + Header.USABLE_TO, 8, lastUsable);
            bytes.setNumber(header + Header.DISK_MARK, 8, mark);
            bytes.setNumber(header + Header.DISK_MARK + 8, 8, markTail);
            bytes.setNumber(header + Header.ARRAY_BLOCK, 8, arrayBlock);
            bytes.setNumber(header + Header.ENTRIES, 4, Entry.MANY);
            bytes.setNumber(header + Header.ENTRY_SIZE, 4, Entry.BYTES);
            writeSums();
        }

        long diskMark() {
            return bytes.number(header + Header.DISK_MARK, 8);
        }

        long diskMarkTail() {
            return bytes.number(header + Header.DISK_MARK + 8, 8);
        }

        void setDiskMark(long k) {
            bytes.setNumber(header + Header.DISK_MARK, 8, k);
            bytes.setNumber(header + Header.DISK_MARK + 8, 8, guidTail(k));
        }

        boolean isLike(Copy other) {
            return bytes.areAlike(array, other.array, ARRAY_BYTES)
                && bytes.areAlike(header + Header.DISK_MARK, other.header + Header.DISK_MARK, Entry.GUID_BYTES);
        }

        boolean isUsable(long first, long last) {
            return first >= FIRST_USABLE && last <= lastUsable && first <= last;
        }

        /** Whether a partition other than that of entry except has a block of first .. last. */
        boolean isTaken(long first, long last, int except) {
            for (int i = 0; i < Entry.MANY; i++) {
                if (i != except && !isFree(i)
                        && getLong(i, Entry.FIRST) <= last && getLong(i, Entry.LAST) >= first) {
                    return true;
                }
            }
            return false;
        }

        boolean isMarkUsed(long mark, long markTail) {
            for (int i = 0; i < Entry.MANY; i++) {
                if (!isFree(i) && getLong(i, Entry.MARK) == mark && getLong(i, Entry.MARK + 8) == markTail) {
                    return true;
                }
            }
            return false;
        }

        int lowestFree() {
            for (int i = 0; i < Entry.MANY; i++) {
                if (isFree(i)) {
                    return i;
                }
            }
            return NONE;
        }

        int partitions() {
            int many = 0;
            for (int i = 0; i < Entry.MANY; i++) {
                if (!isFree(i)) {
                    many++;
                }
            }
            return many;
        }

        /** Only for a sound copy: there the partitions are usable and have no block in common. */
        int unusedBlocks() {
            int many = lastUsable - FIRST_USABLE + 1;
            for (int i = 0; i < Entry.MANY; i++) {
                if (!isFree(i)) {
                    many -= (int) (getLong(i, Entry.LAST) - getLong(i, Entry.FIRST) + 1);
                }
            }
            return many;
        }

        boolean isFree(int i) {
            return bytes.isZero(placeOf(i) + Entry.TYPE, Entry.GUID_BYTES);
        }

        long getLong(int i, int at) {
            return bytes.number(placeOf(i) + at, 8);
        }

        void setLong(int i, int at, long value) {
            bytes.setNumber(placeOf(i) + at, 8, value);
        }

        void setGuid(int i, int at, long k) {
            setLong(i, at, k);
            setLong(i, at + 8, guidTail(k));
        }

        void setRange(int i, int first, int last) {
            setLong(i, Entry.FIRST, first);
            setLong(i, Entry.LAST, last);
        }

        char getLetter(int i, int k) {
            return (char) bytes.number(placeOf(i) + Entry.NAME + 2 * k, 2);
        }

        void setLetter(int i, int k, char c) {
            bytes.setNumber(placeOf(i) + Entry.NAME + 2 * k, 2, c);
        }

        void clearEntry(int i) {
            bytes.clear(placeOf(i), Entry.BYTES);
        }

        void clearEntries() {
            bytes.clear(array, ARRAY_BYTES);
        }

        private int placeOf(int i) {
            return array + i * Entry.BYTES;
        }
    }
}
