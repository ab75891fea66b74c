/**
 * Rows in trees of pages on a roll of blocks to which one only appends.
 * The document (shared/DOC.md) says what each call of the face does.
 */
public final class BookTrees {
    public static final int NONE = -1;
    public static final int BAD = -2;
    public static final int FULL = -3;
    public static final int CUT = -4;
    public static final long GONE = 1000000000000L;
    public static final long BADLY = 1000000000001L;

    private static final int KEYS = 512;
    private static final int MOST_CRASH_BYTES = 100000;

    /** The kinds of blocks, as they stand in byte 0. */
    private static final int LEAF = 1;
    private static final int NODE = 2;
    private static final int TOP = 3;
    private static final int ROOT = 4;

    /** Which entry of a ROOT says what. */
    private static final int ROOT_TOP = 0;
    private static final int ROOT_ROWS = 1;
    private static final int ROOT_START = 2;

    private final Power power;
    private final Roll roll;
    private final Draft draft;
    private final Shelf shelf;
    private final Pages pages;

    public BookTrees(int blocks) {
        power = new Power();
        roll = new Roll(blocks, power);
        draft = new Draft();
        shelf = new Shelf();
        pages = new Pages();
    }

    public int put(int key, int value) throws IllegalArgumentException, IllegalStateException {
        requireArgument(isKey(key));
        requirePower();
        draft.setValue(key, value);
        return draft.size();
    }

    public int drop(int key) throws IllegalArgumentException, IllegalStateException {
        requireArgument(isKey(key));
        requirePower();
        draft.setDropped(key);
        return draft.size();
    }

    public int undo() throws IllegalStateException {
        requirePower();
        int had = draft.size();
        draft.clear();
        return had;
    }

    public long get(int key) throws IllegalArgumentException, IllegalStateException {
        requireArgument(isKey(key));
        requirePower();
        if (draft.isDropped(key)) {
            return GONE;
        }
        return draft.has(key) ? draft.valueOf(key) : rowOf(shelf.newestRoot(), key);
    }

    public int commit() throws IllegalStateException {
        requirePower();
        if (draft.size() == 0) {
            return shelf.newest();
        }
        pages.clear();
        pages.markKeysOf(draft);
        if (!pages.readTree(roll, shelf.newestRoot())) {
            return BAD;
        }
        pages.change(draft);
        int answer = appendVersion(false);
        if (answer > 0) {
            draft.clear();
        }
        return answer;
    }

    public int copy() throws IllegalStateException {
        requirePower();
        pages.clear();
        pages.markAll();
        if (!pages.readTree(roll, shelf.newestRoot())) {
            return BAD;
        }
        return appendVersion(true);
    }

    public long find(int version, int key) throws IllegalArgumentException, IllegalStateException {
        requireArgument(isKept(version) && isKey(key));
        requirePower();
        return rowOf(shelf.rootOf(version), key);
    }

    public int next(int version, int key) throws IllegalArgumentException, IllegalStateException {
        requireArgument(isKept(version) && isKey(key));
        requirePower();
        int root = shelf.rootOf(version);
        int from = key & 7;
        // All keys of a leaf lie behind the same pages, so each leaf is looked for just once.
        for (int leaf = key >> 3; leaf < Pages.LEAVES; leaf++) {
            int block = leafBlock(root, leaf);
            if (block == BAD) {
                return BAD;
            }
            int least = block == NONE ? NONE : roll.lowestBit(block, from);
            if (least != NONE) {
                return leaf * 8 + least;
            }
            from = 0;
        }
        return NONE;
    }

    public int rows(int version) throws IllegalArgumentException, IllegalStateException {
        requireArgument(isKept(version));
        requirePower();
        int root = shelf.rootOf(version);
        if (root == NONE) {
            return 0;
        }
        return roll.isBad(root, ROOT) ? BAD : roll.entryOf(root, ROOT_ROWS);
    }

    public int kept(int k) throws IllegalArgumentException, IllegalStateException {
        requireArgument(k >= 0);
        requirePower();
        if (k < shelf.size()) {
            return shelf.versionFromNewest(k);
        }
        return k == shelf.size() && isKept(0) ? 0 : NONE;
    }

    public void crash(int n) throws IllegalArgumentException, IllegalStateException {
        requireArgument(n >= NONE && n <= MOST_CRASH_BYTES);
        requirePower();
        power.failAfter(n);
    }

    public int reopen() {
        power.restore();
        draft.clear();
        shelf.clear();
        int newest = roll.newestRootSlot();
        if (newest == NONE) {
            roll.use(0, 0);
            return shelf.newest();
        }
        roll.use(roll.entryOf(newest, ROOT_START), roll.numberOf(newest) + 1);
        for (int slot = 0; slot < roll.slots(); slot++) {
            if (roll.isWholeRoot(slot) && roll.isUsed(roll.numberOf(slot))) {
                shelf.add(roll.versionOf(slot), roll.numberOf(slot));
            }
        }
        return shelf.newest();
    }

    public boolean isDown() {
        return power.hasFailed();
    }

    public int byteAt(int block, int i) throws IllegalArgumentException, IllegalStateException {
        requireArgument(roll.isUsed(block) && isByteIndex(i));
        requirePower();
        return roll.byteOf(block, i);
    }

    public int poke(int block, int i, int mask) throws IllegalArgumentException, IllegalStateException {
        requireArgument(roll.isUsed(block) && isByteIndex(i) && mask >= 1 && mask <= 255);
        requirePower();
        roll.alter(block, i, mask);
        return roll.byteOf(block, i);
    }

    public int badAt(int k) throws IllegalArgumentException, IllegalStateException {
        requireArgument(k >= 0);
        requirePower();
        int before = 0;
        for (int block = roll.start(); block < roll.end(); block++) {
            if (!roll.isSound(block)) {
                if (before == k) {
                    return block;
                }
                before++;
            }
        }
        return NONE;
    }

    public int told(int what) throws IllegalArgumentException, IllegalStateException {
        requireArgument(what >= 0 && what <= 4);
        requirePower();
        switch (what) {
            case 0:
                return roll.start();
            case 1:
                return roll.end();
            case 2:
                return shelf.newest();
            case 3:
                return power.written();
            default:
                return draft.size();
        }
    }

    private void requireArgument(boolean legal) {
        if (!legal) {
            throw new IllegalArgumentException("out of its bounds, not kept or not used");
        }
    }

    private void requirePower() {
        if (power.hasFailed()) {
            throw new IllegalStateException("the power failed");
        }
    }

    private boolean isKey(int key) {
        return key >= 0 && key < KEYS;
    }

    private boolean isByteIndex(int i) {
        return i >= 0 && i < Roll.BLOCK;
    }

    private boolean isKept(int version) {
        return version == 0 ? roll.start() == 0 : shelf.rootOf(version) != NONE;
    }

    /** A row of the version with this root (NONE: of version 0): its value, GONE or BADLY. */
    private long rowOf(int root, int key) {
        int block = leafBlock(root, key >> 3);
        if (block == BAD) {
            return BADLY;
        }
        if (block == NONE || !roll.hasBit(block, key & 7)) {
            return GONE;
        }
        return roll.entryOf(block, key & 7);
    }

    /** The block of a leaf of the version with this root: NONE if it is not there, BAD if one on the way is. */
    private int leafBlock(int root, int leaf) {
        if (root == NONE) {
            return NONE;
        }
        if (roll.isBad(root, ROOT)) {
            return BAD;
        }
        int top = childBlock(root, ROOT_TOP, TOP);
        int node = childBlock(top, leaf >> 3, NODE);
        return childBlock(node, leaf & 7, LEAF);
    }

    /** The block that entry k of a page names; a page that is itself NONE or BAD has such children. */
    private int childBlock(int page, int k, int kind) {
        if (page == NONE || page == BAD) {
            return page;
        }
        if (!roll.hasBit(page, k)) {
            return NONE;
        }
        int child = roll.entryOf(page, k);
        return roll.isBad(child, kind) ? BAD : child;
    }

    /** Writes the pages in work and a root as the next version: its number, FULL or CUT. */
    private int appendVersion(boolean asCopy) {
        int first = roll.end();
        int root = pages.place(first);
        if (!roll.hasRoom(root + 1 - first)) {
            return FULL;
        }
        int version = shelf.newest() + 1;
        int start = asCopy ? first : roll.start();
        if (!pages.writeTree(roll, version) || !pages.writeRoot(roll, version, root, start)) {
            return CUT;
        }
        roll.use(start, root + 1);
        if (asCopy) {
            shelf.clear();
        }
        shelf.add(version, root);
        return version;
    }

    /** The power: whether it failed, when it will, and what was written with it. */
    private static final class Power {
        private boolean failed;
        /** NONE if it will not fail. */
        private int bytesLeft;
        private int written;

        Power() {
            bytesLeft = NONE;
        }

        boolean hasFailed() {
            return failed;
        }

        int written() {
            return written;
        }

        void failAfter(int bytes) {
            bytesLeft = bytes;
            failed = bytes == 0;
        }

        void restore() {
            bytesLeft = NONE;
            failed = false;
        }

        /** How many of so many bytes can be written; they count as written then. */
        int spend(int bytes) {
            int spent = bytesLeft == NONE ? bytes : Math.min(bytesLeft, bytes);
            written += spent;
            if (bytesLeft != NONE) {
                bytesLeft -= spent;
                failed = bytesLeft == 0;
            }
            return spent;
        }
    }

    /** The changes that are not committed. Its callers have looked at the keys. */
    private static final class Draft {
        private static final int UNCHANGED = 0;
        private static final int VALUE = 1;
        private static final int DROPPED = 2;

        private final int[] changes = new int[KEYS];
        private final int[] values = new int[KEYS];
        private int size;

        int size() {
            return size;
        }

        boolean has(int key) {
            return changes[key] != UNCHANGED;
        }

        boolean isDropped(int key) {
            return changes[key] == DROPPED;
        }

        /** Means nothing for a key that has no value here. */
        int valueOf(int key) {
            return values[key];
        }

        void setValue(int key, int value) {
            note(key, VALUE);
            values[key] = value;
        }

        void setDropped(int key) {
            note(key, DROPPED);
        }

        void clear() {
            for (int key = 0; key < KEYS; key++) {
                changes[key] = UNCHANGED;
            }
            size = 0;
        }

        private void note(int key, int change) {
            if (!has(key)) {
                size++;
            }
            changes[key] = change;
        }
    }

    /** The kept versions but version 0, the least first, with the blocks of their roots. */
    private static final class Shelf {
        private final int[] versions = new int[Roll.MOST_SLOTS];
        private final int[] roots = new int[Roll.MOST_SLOTS];
        private int size;

        int size() {
            return size;
        }

        int newest() {
            return size == 0 ? 0 : versions[size - 1];
        }

        /** NONE if version 0 is the newest. */
        int newestRoot() {
            return size == 0 ? NONE : roots[size - 1];
        }

        int versionFromNewest(int k) {
            return k >= 0 && k < size ? versions[size - 1 - k] : NONE;
        }

        /** NONE if the version is not here. */
        int rootOf(int version) {
            for (int i = 0; i < size; i++) {
                if (versions[i] == version) {
                    return roots[i];
                }
            }
            return NONE;
        }

        void clear() {
            size = 0;
        }

        /** Of several roots with one version the one in the greatest block stays. */
        void add(int version, int root) {
            int at = size;
            while (at > 0 && versions[at - 1] > version) {
                at--;
            }
            if (at > 0 && versions[at - 1] == version) {
                roots[at - 1] = Math.max(roots[at - 1], root);
            } else if (size < versions.length) {
                // No more roots than slots are ever used, so there is always a place.
                insert(at, version, root);
            }
        }

        private void insert(int at, int version, int root) {
            for (int i = size; i > at; i--) {
                versions[i] = versions[i - 1];
                roots[i] = roots[i - 1];
            }
            versions[at] = version;
            roots[at] = root;
            size++;
        }
    }

    /** The slots with their bytes, and which blocks are used. */
    private static final class Roll {
        static final int MOST_SLOTS = 200;
        static final int BLOCK = 64;

        private static final int LEAST_SLOTS = 16;
        private static final int MOST_NUMBER = 1000000;
        private static final int KIND_AT = 0;
        private static final int BITS_AT = 1;
        private static final int VERSION_AT = 4;
        private static final int ENTRIES_AT = 8;
        private static final int NUMBER_AT = 40;
        private static final int SUM_AT = 56;
        private static final long FACTOR = 0xC2B2AE3D27D4EB4FL;

        private final Power power;
        private final int slots;
        private final byte[] bytes;
        private final boolean[] torn;
        /** A block is made up here before it is written; the bytes that are 0 in all blocks are never set. */
        private final byte[] sheet = new byte[BLOCK];
        private int start;
        private int end;

        Roll(int wanted, Power power) {
            this.power = power;
            slots = Math.max(LEAST_SLOTS, Math.min(MOST_SLOTS, wanted));
            bytes = new byte[slots * BLOCK];
            torn = new boolean[slots];
        }

        int slots() {
            return slots;
        }

        int start() {
            return start;
        }

        int end() {
            return end;
        }

        void use(int from, int upTo) {
            start = from;
            end = upTo;
        }

        boolean isUsed(int block) {
            return block >= start && block < end;
        }

        boolean hasRoom(int count) {
            return end - start + count <= slots;
        }

        int byteOf(int block, int i) {
            return bytes[offsetOf(block) + i] & 255;
        }

        void alter(int block, int i, int mask) {
            int at = offsetOf(block) + i;
            bytes[at] = (byte) (bytes[at] ^ mask);
        }

        boolean hasBit(int block, int k) {
            return ((byteOf(block, BITS_AT) >> k) & 1) == 1;
        }

        /** The lowest bit that is set, from one on, or NONE. */
        int lowestBit(int block, int from) {
            for (int k = from; k < 8; k++) {
                if (hasBit(block, k)) {
                    return k;
                }
            }
            return NONE;
        }

        int versionOf(int block) {
            return intAt(bytes, offsetOf(block) + VERSION_AT);
        }

        int entryOf(int block, int k) {
            return intAt(bytes, offsetOf(block) + ENTRIES_AT + 4 * k);
        }

        /** The number that a block says it has. */
        int numberOf(int block) {
            return intAt(bytes, offsetOf(block) + NUMBER_AT);
        }

        boolean isBad(int block, int kind) {
            return !isUsed(block) || !isSound(block) || byteOf(block, KIND_AT) != kind;
        }

        /** Whether sum and number are right. */
        boolean isSound(int block) {
            int at = offsetOf(block);
            return intAt(bytes, at + NUMBER_AT) == block && isSumRight(at);
        }

        /** A slot's number is also that of a block in it, so the calls that take a block take a slot. */
        boolean isWholeRoot(int slot) {
            int at = offsetOf(slot);
            int number = numberOf(slot);
            int version = versionOf(slot);
            int from = entryOf(slot, ROOT_START);
            return byteOf(slot, KIND_AT) == ROOT
                    && number >= 0 && number <= MOST_NUMBER && offsetOf(number) == at
                    && version >= 1 && version <= MOST_NUMBER
                    && from >= 0 && from <= number && number - from < slots
                    && isSumRight(at);
        }

        /** The slot of the newest whole root, or NONE. */
        int newestRootSlot() {
            int newest = NONE;
            for (int slot = 0; slot < slots; slot++) {
                if (isWholeRoot(slot) && (newest == NONE || isNewer(slot, newest))) {
                    newest = slot;
                }
            }
            return newest;
        }

        /** Writes a block as far as the power goes, its eight entries from a place on: whether it held. */
        boolean write(int block, int kind, int bits, int version, int[] entries, int from) {
            makeUp(block, kind, bits, version, entries, from);
            int at = offsetOf(block);
            int count = power.spend(BLOCK);
            System.arraycopy(sheet, 0, bytes, at, count);
            if (count > 0) {
                torn[at / BLOCK] = count < BLOCK;
            }
            return !power.hasFailed();
        }

        private void makeUp(int block, int kind, int bits, int version, int[] entries, int from) {
            sheet[KIND_AT] = (byte) kind;
            sheet[BITS_AT] = (byte) bits;
            setInt(VERSION_AT, version);
            for (int k = 0; k < 8; k++) {
                setInt(ENTRIES_AT + 4 * k, entries[from + k]);
            }
            setInt(NUMBER_AT, block);
            long sum = sumOf(sheet, 0);
            setInt(SUM_AT, (int) (sum >>> 32));
            setInt(SUM_AT + 4, (int) sum);
        }

        private boolean isNewer(int slot, int than) {
            int version = versionOf(slot);
            int other = versionOf(than);
            return version > other || version == other && numberOf(slot) > numberOf(than);
        }

        /** Whether the sum of the block that begins at a place is right. */
        private boolean isSumRight(int at) {
            long sum = sumOf(bytes, at);
            return !torn[at / BLOCK]
                    && intAt(bytes, at + SUM_AT) == (int) (sum >>> 32)
                    && intAt(bytes, at + SUM_AT + 4) == (int) sum;
        }

        /** Where the slot of a block begins. */
        private int offsetOf(int block) {
            return Math.floorMod(block, slots) * BLOCK;
        }

        private void setInt(int at, int number) {
            sheet[at] = (byte) (number >>> 24);
            sheet[at + 1] = (byte) (number >>> 16);
            sheet[at + 2] = (byte) (number >>> 8);
            sheet[at + 3] = (byte) number;
        }

        private static int intAt(byte[] from, int at) {
            return ((from[at] & 255) << 24) | ((from[at + 1] & 255) << 16)
                    | ((from[at + 2] & 255) << 8) | (from[at + 3] & 255);
        }

        /** The sum of the contents that begin at a place. */
        private static long sumOf(byte[] from, int at) {
            long sum = 0;
            for (int i = 0; i < SUM_AT; i++) {
                long mixed = sum ^ (from[at + i] & 255);
                sum = ((mixed << 47) | (mixed >>> 17)) * FACTOR;
            }
            return sum;
        }
    }

    /**
     * The pages that a commit or a copy has in work, in the order in which they are written:
     * the leaves are pages 0 .. 63, the nodes 64 .. 71, the TOP is 72. So page p is
     * entry p & 7 of page 64 + p / 8, for leaves and nodes alike.
     */
    private static final class Pages {
        static final int LEAVES = 64;

        private static final int TOP_PAGE = 72;
        private static final int COUNT = 73;

        /** Which pages are to be read and written. */
        private final boolean[] marked = new boolean[COUNT];
        /** A page without bits is not there. */
        private final int[] bits = new int[COUNT];
        private final int[] entries = new int[COUNT * 8];
        private final int[] blocks = new int[COUNT];
        private final int[] rootEntries = new int[8];
        private int rowCount;

        void clear() {
            for (int page = 0; page < COUNT; page++) {
                marked[page] = false;
                bits[page] = 0;
            }
            for (int i = 0; i < COUNT * 8; i++) {
                entries[i] = 0;
            }
            rowCount = 0;
        }

        void markAll() {
            for (int page = 0; page < COUNT; page++) {
                marked[page] = true;
            }
        }

        /** Marks the leaves that the draft has keys of, and what lies over them. */
        void markKeysOf(Draft draft) {
            for (int key = 0; key < KEYS; key++) {
                if (draft.has(key)) {
                    int leaf = key >> 3;
                    marked[leaf] = true;
                    marked[parentOf(leaf)] = true;
                    marked[TOP_PAGE] = true;
                }
            }
        }

        /** Reads the marked pages of the version with this root (NONE: version 0); false if a block is BAD. */
        boolean readTree(Roll roll, int root) {
            if (root == NONE) {
                return true;
            }
            if (roll.isBad(root, ROOT)) {
                return false;
            }
            rowCount = roll.entryOf(root, ROOT_ROWS);
            if (!roll.hasBit(root, ROOT_TOP)) {
                return true;
            }
            if (!readPage(roll, TOP_PAGE, roll.entryOf(root, ROOT_TOP))) {
                return false;
            }
            for (int page = TOP_PAGE - 1; page >= 0; page--) {
                if (marked[page] && isInParent(page) && !readPage(roll, page, entries[placeInParent(page)])) {
                    return false;
                }
            }
            return true;
        }

        void change(Draft draft) {
            for (int key = 0; key < KEYS; key++) {
                if (draft.has(key)) {
                    int leaf = key >> 3;
                    int before = bitOf(leaf, key & 7);
                    setEntry(leaf, key & 7, !draft.isDropped(key), draft.valueOf(key));
                    rowCount += bitOf(leaf, key & 7) - before;
                }
            }
        }

        /** Gives the marked pages that are there blocks from one on, which the pages over them name: the ROOT's block. */
        int place(int first) {
            int block = first;
            for (int page = 0; page < COUNT; page++) {
                if (marked[page]) {
                    boolean there = bits[page] != 0;
                    blocks[page] = there ? block : 0;
                    block += there ? 1 : 0;
                    if (page < TOP_PAGE) {
                        setEntry(parentOf(page), page & 7, there, blocks[page]);
                    }
                }
            }
            return block;
        }

        /** Whether the power held. */
        boolean writeTree(Roll roll, int version) {
            for (int page = 0; page < COUNT; page++) {
                if (marked[page] && bits[page] != 0
                        && !roll.write(blocks[page], kindOf(page), bits[page], version, entries, page * 8)) {
                    return false;
                }
            }
            return true;
        }

        /** Whether the power held. */
        boolean writeRoot(Roll roll, int version, int block, int start) {
            rootEntries[ROOT_TOP] = blocks[TOP_PAGE];
            rootEntries[ROOT_ROWS] = rowCount;
            rootEntries[ROOT_START] = start;
            return roll.write(block, ROOT, bits[TOP_PAGE] == 0 ? 0 : 1, version, rootEntries, 0);
        }

        private boolean readPage(Roll roll, int page, int block) {
            if (roll.isBad(block, kindOf(page))) {
                return false;
            }
            for (int k = 0; k < 8; k++) {
                setEntry(page, k, roll.hasBit(block, k), roll.entryOf(block, k));
            }
            return true;
        }

        /** An entry whose bit is not set is 0. */
        private void setEntry(int page, int k, boolean there, int entry) {
            int bit = 1 << k;
            bits[page] = there ? bits[page] | bit : bits[page] & ~bit;
            entries[page * 8 + k] = there ? entry : 0;
        }

        private int bitOf(int page, int k) {
            return (bits[page] >> k) & 1;
        }

        private boolean isInParent(int page) {
            return bitOf(parentOf(page), page & 7) == 1;
        }

        private static int parentOf(int page) {
            return LEAVES + (page >> 3);
        }

        private static int placeInParent(int page) {
            return parentOf(page) * 8 + (page & 7);
        }

        private static int kindOf(int page) {
            if (page == TOP_PAGE) {
                return TOP;
            }
            return page < LEAVES ? LEAF : NODE;
        }
    }
}
