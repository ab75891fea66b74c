/** The edges of the kinds of blocks: which bits and entries they have, what is read of them, when they are BAD. */
public final class PageEdgesTest {
    private static final Check CHECK = new Check("PageEdgesTest");
    private static final int[] UNUSED = {7, 16, 23, -1, -16, 1000000, Integer.MIN_VALUE, Integer.MAX_VALUE};

    public static void main(String[] args) {
        CHECK.of("LEAF L, 0 .. 63: the rows 8 L .. 8 L + 7", PageEdgesTest::firstAndLastLeaf);
        CHECK.of("bit k of BITS (the lowest is 0) says whether row 8 L + k is there", PageEdgesTest::bitsOfLeaf);
        CHECK.of("entry k is its value (0 if it is not)", PageEdgesTest::entriesOfLeaf);
        CHECK.of("NODE M, 0 .. 7: leaves 8 M .. 8 M + 7", PageEdgesTest::firstAndLastNode);
        CHECK.of("NODE: BITS which of them have rows", PageEdgesTest::bitsOfNode);
        CHECK.of("entries their blocks' numbers (0 if not)", PageEdgesTest::entriesOfNode);
        CHECK.of("KIND 3, the TOP: nodes 0 .. 7, likewise", PageEdgesTest::bitsOfTop);
        CHECK.of("a ROOT: BITS 1 if there are rows", PageEdgesTest::bitsOfRoot);
        CHECK.of("entry 0 the block of the TOP (0 if there are none)", PageEdgesTest::topOfRoot);
        CHECK.of("1 how many rows, 2 START; others 0", PageEdgesTest::entriesOfRoot);
        CHECK.of("(read, just bit 0 says so): bit 0 alone is not set", PageEdgesTest::rootWithoutBit0);
        CHECK.of("(read, just bit 0 says so): other bits are set too", PageEdgesTest::rootWithMoreBits);
        CHECK.of("an entry whose bit is not set counts as 0: in a LEAF", PageEdgesTest::strayValue);
        CHECK.of("an entry whose bit is not set counts as 0: in a NODE", PageEdgesTest::strayLeaf);
        CHECK.of("an entry whose bit is not set counts as 0: in the TOP", PageEdgesTest::strayNode);
        CHECK.of("but in a ROOT", PageEdgesTest::strayRows);
        CHECK.of("a page without bits as if it were not there: a LEAF", PageEdgesTest::leafWithoutBits);
        CHECK.of("a page without bits as if it were not there: a NODE", PageEdgesTest::nodeWithoutBits);
        CHECK.of("a page without bits as if it were not there: the TOP", PageEdgesTest::topWithoutBits);
        CHECK.of("A block is BAD .. if it is not used: a LEAF", PageEdgesTest::leafNotUsed);
        CHECK.of("A block is BAD .. if it is not used: a NODE", PageEdgesTest::nodeNotUsed);
        CHECK.of("A block is BAD .. if it is not used: the TOP", PageEdgesTest::topNotUsed);
        CHECK.of("A block is BAD .. if it is not used: just below START", PageEdgesTest::belowStart);
        CHECK.of("or its sum .. is another one", PageEdgesTest::otherSum);
        CHECK.of("its number .. is another one", PageEdgesTest::otherNumber);
        CHECK.of("or its kind is another one", PageEdgesTest::otherKind);
        CHECK.end();
    }

    private static void firstAndLastLeaf() {
        int[] keys = {0, 7, 8, 15, 16, 63, 64, 447, 448, 503, 504, 511};
        for (int key : keys) {
            BookTrees x = Rolls.oneRow(16, key, 9);
            int[] entries = new int[8];
            entries[key % 8] = 9;
            Blocks.dueBlock(CHECK, x, Blocks.image(Blocks.LEAF, 1 << key % 8, 1, 0, entries), 0);
            CHECK.due("find(1, " + key + ")", x.find(1, key), 9);
            CHECK.due("next(1, 0)", x.next(1, 0), key);
            if (key > 0) {
                CHECK.due("find(1, " + (key - 1) + ")", x.find(1, key - 1), BookTrees.GONE);
            }
            if (key < 511) {
                CHECK.due("find(1, " + (key + 1) + ")", x.find(1, key + 1), BookTrees.GONE);
            }
        }
    }

    private static void bitsOfLeaf() {
        for (int k = 0; k < 8; k++) {
            BookTrees x = Rolls.oneRow(16, 8 + k, 1);
            CHECK.due("byteAt(0, 1) for row " + (8 + k), x.byteAt(0, 1), 1 << k);
        }
        BookTrees y = new BookTrees(16);
        for (int k = 0; k < 8; k++) {
            y.put(8 + k, k);
        }
        y.commit();
        CHECK.due("byteAt(0, 1) for all rows", y.byteAt(0, 1), 255);
        CHECK.due("told(1)", y.told(1), 4);
        CHECK.due("rows(1)", y.rows(1), 8);
    }

    private static void entriesOfLeaf() {
        BookTrees x = new BookTrees(16);
        x.put(8, -1);
        x.put(15, -2);
        x.put(12, 0);
        x.commit();
        Blocks.dueBlock(CHECK, x, Blocks.image(Blocks.LEAF, 145, 1, 0, -1, 0, 0, 0, 0, 0, 0, -2), 0);
        x.drop(15);
        x.commit();
        Blocks.dueBlock(CHECK, x, Blocks.image(Blocks.LEAF, 17, 2, 4, -1), 4);
    }

    private static void firstAndLastNode() {
        int[] keys = {0, 63, 64, 127, 128, 447, 448, 511};
        for (int key : keys) {
            BookTrees x = Rolls.oneRow(16, key, 9);
            CHECK.due("byteAt(1, 1) for row " + key, x.byteAt(1, 1), 1 << key / 8 % 8);
            CHECK.due("byteAt(2, 1) for row " + key, x.byteAt(2, 1), 1 << key / 64);
        }
    }

    private static void bitsOfNode() {
        BookTrees x = Rolls.leaves(40, 8);
        CHECK.due("byteAt(8, 1) for all leaves", x.byteAt(8, 1), 255);
        for (int leaf = 1; leaf <= 6; leaf++) {
            x.drop(8 * leaf);
        }
        CHECK.due("commit()", x.commit(), 2);
        Blocks.dueBlock(CHECK, x, Blocks.image(Blocks.NODE, 129, 2, 11, 0, 0, 0, 0, 0, 0, 0, 7), 11);
    }

    /** A leaf in block 0 has the entry of one that is not there, but its bit is set. */
    private static void entriesOfNode() {
        BookTrees x = Rolls.oneRow(16, 3, 4);
        Blocks.dueBlock(CHECK, x, Blocks.image(Blocks.NODE, 1, 1, 1, 0), 1);
        CHECK.due("find(1, 3) in block 0", x.find(1, 3), 4);
        CHECK.due("find(1, 11) not there", x.find(1, 11), BookTrees.GONE);
        x.poke(0, 63, 1);
        CHECK.due("find(1, 3) in a bad block 0", x.find(1, 3), BookTrees.BADLY);
        CHECK.due("find(1, 11) not there", x.find(1, 11), BookTrees.GONE);
        x.put(11, 5);
        CHECK.due("commit()", x.commit(), 2);
        Blocks.dueBlock(CHECK, x, Blocks.image(Blocks.NODE, 3, 2, 5, 0, 4), 5);
    }

    private static void bitsOfTop() {
        BookTrees x = new BookTrees(40);
        for (int node = 0; node < 8; node++) {
            x.put(64 * node, 1);
        }
        x.commit();
        Blocks.dueBlock(CHECK, x, Blocks.image(Blocks.TOP, 255, 1, 16, 8, 9, 10, 11, 12, 13, 14, 15), 16);
        for (int node = 1; node <= 6; node++) {
            x.drop(64 * node);
        }
        x.commit();
        Blocks.dueBlock(CHECK, x, Blocks.image(Blocks.TOP, 129, 2, 18, 8, 0, 0, 0, 0, 0, 0, 15), 18);
    }

    private static void bitsOfRoot() {
        BookTrees x = Rolls.roots(16, 1);
        CHECK.due("byteAt(0, 1) without rows", x.byteAt(0, 1), 0);
        x.put(511, 0);
        x.commit();
        CHECK.due("byteAt(4, 1) with a row", x.byteAt(4, 1), 1);
        x.drop(511);
        x.commit();
        CHECK.due("byteAt(5, 1) without rows again", x.byteAt(5, 1), 0);
    }

    private static void topOfRoot() {
        BookTrees x = Rolls.oneRow(16, 0, 5);
        CHECK.due("byteAt(3, 11) with a row", x.byteAt(3, 11), 2);
        x.drop(0);
        x.commit();
        Blocks.dueBlock(CHECK, x, Blocks.image(Blocks.ROOT, 0, 2, 4), 4);
    }

    private static void entriesOfRoot() {
        BookTrees x = Rolls.copies(40, 20);
        Rolls.putLeaves(x, 3);
        x.commit();
        Blocks.dueBlock(CHECK, x, Blocks.image(Blocks.ROOT, 1, 21, 25, 24, 3, 19), 25);
        x.copy();
        Blocks.dueBlock(CHECK, x, Blocks.image(Blocks.ROOT, 1, 22, 31, 30, 3, 26), 31);
    }

    private static void rootWithoutBit0() {
        BookTrees x = Rolls.threeRows(16);
        Blocks.setMended(x, 6, Blocks.BITS, 0xFE);
        CHECK.due("find(1, 0)", x.find(1, 0), BookTrees.GONE);
        CHECK.due("get(100)", x.get(100), BookTrees.GONE);
        CHECK.due("next(1, 0)", x.next(1, 0), BookTrees.NONE);
        x.poke(5, 63, 1);
        CHECK.due("find(1, 0), the TOP not looked at", x.find(1, 0), BookTrees.GONE);
        CHECK.due("copy(), the TOP not looked at", x.copy(), 2);
        CHECK.due("told(1)", x.told(1), 8);
    }

    private static void rootWithMoreBits() {
        BookTrees x = Rolls.threeRows(16);
        Blocks.setMended(x, 6, Blocks.BITS, 0xFF);
        CHECK.due("find(1, 0)", x.find(1, 0), 10);
        CHECK.due("next(1, 10)", x.next(1, 10), 100);
        CHECK.due("copy()", x.copy(), 2);
        CHECK.due("byteAt(13, 1) of the copy", x.byteAt(13, 1), 1);
        CHECK.due("find(2, 100)", x.find(2, 100), 12);
    }

    private static void strayValue() {
        BookTrees x = Rolls.oneRow(16, 0, 10);
        Blocks.setIntMended(x, 0, Blocks.entry(7), 77);
        CHECK.due("find(1, 7)", x.find(1, 7), BookTrees.GONE);
        CHECK.due("next(1, 1)", x.next(1, 1), BookTrees.NONE);
        x.put(1, 5);
        CHECK.due("commit()", x.commit(), 2);
        Blocks.dueBlock(CHECK, x, Blocks.image(Blocks.LEAF, 3, 2, 4, 10, 5), 4);
        CHECK.due("rows(2)", x.rows(2), 2);
    }

    private static void strayLeaf() {
        BookTrees x = Rolls.oneRow(16, 0, 10);
        Blocks.setIntMended(x, 1, Blocks.entry(7), 1000);
        CHECK.due("find(1, 56)", x.find(1, 56), BookTrees.GONE);
        CHECK.due("next(1, 1)", x.next(1, 1), BookTrees.NONE);
        x.put(8, 5);
        CHECK.due("commit()", x.commit(), 2);
        Blocks.dueBlock(CHECK, x, Blocks.image(Blocks.NODE, 3, 2, 5, 0, 4), 5);
        x.put(56, 6);
        CHECK.due("commit() there", x.commit(), 3);
        CHECK.due("find(3, 56)", x.find(3, 56), 6);
    }

    private static void strayNode() {
        BookTrees x = Rolls.oneRow(16, 0, 10);
        Blocks.setIntMended(x, 2, Blocks.entry(7), 1000);
        CHECK.due("find(1, 511)", x.find(1, 511), BookTrees.GONE);
        x.put(64, 5);
        CHECK.due("commit()", x.commit(), 2);
        Blocks.dueBlock(CHECK, x, Blocks.image(Blocks.TOP, 3, 2, 6, 1, 5), 6);
        x.put(511, 6);
        CHECK.due("commit() there", x.commit(), 3);
        CHECK.due("find(3, 511)", x.find(3, 511), 6);
    }

    /** Entries 1 and 2 of a ROOT count though its BITS are 0. */
    private static void strayRows() {
        BookTrees x = Rolls.roots(16, 3);
        Blocks.setInt(x, 2, Blocks.entry(1), 41);
        Blocks.setIntMended(x, 2, Blocks.entry(2), 1);
        CHECK.due("rows(3)", x.rows(3), 41);
        CHECK.due("reopen()", x.reopen(), 3);
        CHECK.due("told(0)", x.told(0), 1);
        CHECK.due("copy()", x.copy(), 4);
        Blocks.dueBlock(CHECK, x, Blocks.image(Blocks.ROOT, 0, 4, 3, 0, 41, 3), 3);
    }

    private static void leafWithoutBits() {
        BookTrees x = Rolls.threeRows(30);
        Blocks.setMended(x, 2, Blocks.BITS, 0);
        CHECK.due("find(1, 100)", x.find(1, 100), BookTrees.GONE);
        CHECK.due("next(1, 10)", x.next(1, 10), BookTrees.NONE);
        CHECK.due("copy()", x.copy(), 2);
        // Leaves 0 and 1 in 7 and 8, node 0 in 9: node 1 has no leaves any more.
        Blocks.dueBlock(CHECK, x, Blocks.image(Blocks.TOP, 1, 2, 10, 9), 10);
        CHECK.due("told(1)", x.told(1), 12);
    }

    private static void nodeWithoutBits() {
        BookTrees x = Rolls.threeRows(30);
        Blocks.setMended(x, 4, Blocks.BITS, 0);
        CHECK.due("find(1, 100)", x.find(1, 100), BookTrees.GONE);
        CHECK.due("next(1, 10)", x.next(1, 10), BookTrees.NONE);
        x.poke(2, 63, 1);
        CHECK.due("copy(), its leaf not looked at", x.copy(), 2);
        Blocks.dueBlock(CHECK, x, Blocks.image(Blocks.TOP, 1, 2, 10, 9), 10);
        CHECK.due("told(1)", x.told(1), 12);
    }

    private static void topWithoutBits() {
        BookTrees x = Rolls.threeRows(30);
        Blocks.setMended(x, 5, Blocks.BITS, 0);
        CHECK.due("find(1, 0)", x.find(1, 0), BookTrees.GONE);
        CHECK.due("next(1, 0)", x.next(1, 0), BookTrees.NONE);
        x.poke(3, 63, 1);
        CHECK.due("copy(), its nodes not looked at", x.copy(), 2);
        CHECK.due("told(1)", x.told(1), 8);
        CHECK.due("byteAt(7, 1), without rows", x.byteAt(7, 1), 0);
    }

    private static void leafNotUsed() {
        for (int number : UNUSED) {
            BookTrees x = Rolls.threeRows(16);
            Blocks.setIntMended(x, 4, Blocks.entry(4), number);
            CHECK.due("find(1, 100) in block " + number, x.find(1, 100), BookTrees.BADLY);
            CHECK.due("find(1, 0)", x.find(1, 0), 10);
            CHECK.due("copy()", x.copy(), BookTrees.BAD);
            x.drop(100);
            CHECK.due("commit()", x.commit(), BookTrees.BAD);
        }
    }

    private static void nodeNotUsed() {
        for (int number : UNUSED) {
            BookTrees x = Rolls.threeRows(16);
            Blocks.setIntMended(x, 5, Blocks.entry(1), number);
            CHECK.due("find(1, 64) under block " + number, x.find(1, 64), BookTrees.BADLY);
            CHECK.due("find(1, 0)", x.find(1, 0), 10);
            CHECK.due("copy()", x.copy(), BookTrees.BAD);
            x.drop(100);
            CHECK.due("commit()", x.commit(), BookTrees.BAD);
        }
    }

    private static void topNotUsed() {
        for (int number : UNUSED) {
            BookTrees x = Rolls.threeRows(16);
            Blocks.setIntMended(x, 6, Blocks.entry(0), number);
            CHECK.due("find(1, 511) under block " + number, x.find(1, 511), BookTrees.BADLY);
            CHECK.due("rows(1)", x.rows(1), 3);
            CHECK.due("copy()", x.copy(), BookTrees.BAD);
            x.drop(511);
            CHECK.due("commit()", x.commit(), BookTrees.BAD);
        }
    }

    /** The pages of version 1 are as they were, but the ROOT's START is behind some of them. */
    private static void belowStart() {
        for (int start = 0; start <= 6; start++) {
            BookTrees x = Rolls.threeRows(16);
            Blocks.setIntMended(x, 6, Blocks.entry(2), start);
            CHECK.due("reopen()", x.reopen(), 1);
            CHECK.due("find(1, 0), START " + start, x.find(1, 0), start == 0 ? 10 : BookTrees.BADLY);
            CHECK.due("find(1, 9), START " + start, x.find(1, 9), start <= 1 ? 11 : BookTrees.BADLY);
            CHECK.due("find(1, 100), START " + start, x.find(1, 100), start <= 2 ? 12 : BookTrees.BADLY);
            CHECK.due("find(1, 16), START " + start, x.find(1, 16), start <= 3 ? BookTrees.GONE : BookTrees.BADLY);
            CHECK.due("find(1, 64), START " + start, x.find(1, 64), start <= 4 ? BookTrees.GONE : BookTrees.BADLY);
            CHECK.due("find(1, 511), START " + start, x.find(1, 511), start <= 5 ? BookTrees.GONE : BookTrees.BADLY);
            CHECK.due("rows(1), START " + start, x.rows(1), 3);
            CHECK.due("copy(), START " + start, x.copy(), start == 0 ? 2 : BookTrees.BAD);
        }
    }

    /** A key that lies behind each block of three rows. */
    private static int keyBehind(int block) {
        return block == 1 ? 9 : block == 2 || block == 4 ? 100 : 0;
    }

    private static void dueBad(BookTrees x, int block, String what) {
        int key = keyBehind(block);
        CHECK.due("find(1, " + key + ") with " + what, x.find(1, key), BookTrees.BADLY);
        CHECK.due("get(" + key + ") with " + what, x.get(key), BookTrees.BADLY);
        CHECK.due("next(1, " + key + ") with " + what, x.next(1, key), BookTrees.BAD);
        CHECK.due("rows(1) with " + what, x.rows(1), block == 6 ? BookTrees.BAD : 3);
        CHECK.due("copy() with " + what, x.copy(), BookTrees.BAD);
        x.put(key, 1);
        CHECK.due("commit() with " + what, x.commit(), BookTrees.BAD);
    }

    private static void otherSum() {
        for (int block = 0; block <= 6; block++) {
            for (int i = 56; i < 64; i++) {
                BookTrees x = Rolls.threeRows(16);
                x.poke(block, i, 128);
                dueBad(x, block, "another sum in block " + block);
            }
        }
    }

    private static void otherNumber() {
        for (int block = 0; block <= 6; block++) {
            for (int number : new int[] {block + 1, block - 1, block + 16, block - 16, block | 1 << 31}) {
                BookTrees x = Rolls.threeRows(16);
                Blocks.setIntMended(x, block, Blocks.NUMBER, number);
                dueBad(x, block, "number " + number + " in block " + block);
            }
        }
    }

    private static void otherKind() {
        int[] kinds = {Blocks.LEAF, Blocks.LEAF, Blocks.LEAF, Blocks.NODE, Blocks.NODE, Blocks.TOP, Blocks.ROOT};
        for (int block = 0; block <= 6; block++) {
            for (int kind : new int[] {0, 1, 2, 3, 4, 5, 255, kinds[block] | 128}) {
                if (kind != kinds[block]) {
                    BookTrees x = Rolls.threeRows(16);
                    Blocks.setMended(x, block, 0, kind);
                    dueBad(x, block, "kind " + kind + " in block " + block);
                }
            }
        }
    }
}
