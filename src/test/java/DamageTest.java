/** What is read of blocks that were altered and whose sums are right all the same. */
public final class DamageTest {
    private static final Check CHECK = new Check("DamageTest");

    public static void main(String[] args) {
        kinds();
        numbers();
        unusedBlocks();
        rootWithoutRows();
        rootEntries();
        entriesWithoutBits();
        pagesWithoutBits();
        sharedPages();
        wholeRoots();
        severalRoots();
        severalRootsOverTheEnd();
        farNumbers();
        startOfRoots();
        CHECK.end();
    }

    /** Leaves 0, 1, 12 in 0 .. 2, nodes 0, 1 in 3 and 4, the TOP in 5, the ROOT in 6. */
    private static BookTrees oneVersion() {
        BookTrees x = new BookTrees(20);
        x.put(0, 10);
        x.put(9, 11);
        x.put(100, 12);
        x.commit();
        return x;
    }

    private static void kinds() {
        int[] kinds = {Blocks.LEAF, Blocks.LEAF, Blocks.LEAF, Blocks.NODE, Blocks.NODE, Blocks.TOP, Blocks.ROOT};
        int[] keys = {0, 9, 100, 0, 100, 0, 0};
        for (int block = 0; block < kinds.length; block++) {
            for (int kind = 0; kind <= 5; kind++) {
                BookTrees x = oneVersion();
                Blocks.setMended(x, block, 0, kind);
                long value = keys[block] == 0 ? 10 : keys[block] == 9 ? 11 : 12;
                boolean right = kind == kinds[block];
                String call = "find(1, " + keys[block] + ") with kind " + kind + " in block " + block;
                CHECK.due(call, x.find(1, keys[block]), right ? value : BookTrees.BADLY);
                CHECK.due("badAt(0)", x.badAt(0), BookTrees.NONE);
                x.put(keys[block], 5);
                CHECK.due("copy()", x.copy(), right ? 2 : BookTrees.BAD);
                CHECK.due("commit()", x.commit(), right ? 3 : BookTrees.BAD);
            }
        }
    }

    private static void numbers() {
        int[] keys = {0, 9, 100, 0, 100, 0, 0};
        for (int block = 0; block < keys.length; block++) {
            BookTrees x = oneVersion();
            Blocks.setIntMended(x, block, Blocks.NUMBER, block + 20);
            CHECK.due("find(1, ..) with a wrong number in " + block, x.find(1, keys[block]), BookTrees.BADLY);
            CHECK.due("badAt(0)", x.badAt(0), block);
            CHECK.due("rows(1)", x.rows(1), block == 6 ? BookTrees.BAD : 3);
            Blocks.setIntMended(x, block, Blocks.NUMBER, block);
            CHECK.due("badAt(0) mended", x.badAt(0), BookTrees.NONE);
        }
    }

    private static void unusedBlocks() {
        for (int number : new int[] {7, 20, 22, -1, -2, -18, 1000000, Integer.MIN_VALUE, Integer.MAX_VALUE}) {
            BookTrees x = oneVersion();
            Blocks.setIntMended(x, 4, Blocks.entry(4), number);
            CHECK.due("find(1, 100) in block " + number, x.find(1, 100), BookTrees.BADLY);
            CHECK.due("find(1, 103) in block " + number, x.find(1, 103), BookTrees.BADLY);
            CHECK.due("find(1, 104)", x.find(1, 104), BookTrees.GONE);
            CHECK.due("next(1, 10) in block " + number, x.next(1, 10), BookTrees.BAD);
            CHECK.due("copy() of block " + number, x.copy(), BookTrees.BAD);
            x.put(101, 1);
            CHECK.due("commit() into block " + number, x.commit(), BookTrees.BAD);
            x.undo();
            x.put(1, 1);
            CHECK.due("commit() beside block " + number, x.commit(), 2);
            Blocks.setIntMended(x, 6, Blocks.entry(0), number);
            CHECK.due("find(1, 0) with its TOP in " + number, x.find(1, 0), BookTrees.BADLY);
        }
    }

    /** Just bit 0 of a ROOT says whether there are rows. */
    private static void rootWithoutRows() {
        BookTrees x = oneVersion();
        Blocks.setMended(x, 6, Blocks.BITS, 0xFE);
        CHECK.due("find(1, 0)", x.find(1, 0), BookTrees.GONE);
        CHECK.due("next(1, 0)", x.next(1, 0), BookTrees.NONE);
        CHECK.due("rows(1)", x.rows(1), 3);
        x.put(20, 1);
        CHECK.due("commit()", x.commit(), 2);
        CHECK.due("find(2, 0)", x.find(2, 0), BookTrees.GONE);
        CHECK.due("find(2, 20)", x.find(2, 20), 1);
        CHECK.due("rows(2), by the root before", x.rows(2), 4);
        CHECK.due("told(1)", x.told(1), 11);
        Blocks.setMended(x, 10, Blocks.BITS, 0xFF);
        CHECK.due("find(2, 20) with more bits", x.find(2, 20), 1);
        CHECK.due("copy()", x.copy(), 3);
        Blocks.dueBlock(CHECK, x, Blocks.image(Blocks.ROOT, 1, 3, 14, 13, 4, 11), 14);

        BookTrees y = oneVersion();
        Blocks.setMended(y, 6, Blocks.BITS, 2);
        CHECK.due("copy()", y.copy(), 2);
        Blocks.dueBlock(CHECK, y, Blocks.image(Blocks.ROOT, 0, 2, 7, 0, 3, 7), 7);
        CHECK.due("told(1)", y.told(1), 8);
    }

    private static void rootEntries() {
        BookTrees x = oneVersion();
        Blocks.setIntMended(x, 6, Blocks.entry(1), -7);
        CHECK.due("rows(1) as it stands", x.rows(1), -7);
        CHECK.due("copy()", x.copy(), 2);
        CHECK.due("rows(2) copied", x.rows(2), -7);
        x.put(1, 1);
        x.put(300, 1);
        x.drop(9);
        x.drop(10);
        x.commit();
        CHECK.due("rows(3) by what changed", x.rows(3), -6);
        x.drop(0);
        x.drop(1);
        x.drop(100);
        x.drop(300);
        CHECK.due("commit()", x.commit(), 4);
        CHECK.due("rows(4) by what changed", x.rows(4), -10);
        CHECK.due("find(4, 0)", x.find(4, 0), BookTrees.GONE);
        CHECK.due("byteAt(.., 1), without rows", x.byteAt(x.told(1) - 1, 1), 0);
    }

    /** One version with entries that no bit is set for, and bytes that nothing is said of. */
    private static BookTrees straysInPages() {
        BookTrees x = oneVersion();
        Blocks.turn(x, 0, Blocks.image(Blocks.LEAF, 1, 1, 0, 10),
                Blocks.image(Blocks.LEAF, 1, 1, 0, 10, 0, 0, 77));
        Blocks.turn(x, 3, Blocks.image(Blocks.NODE, 3, 1, 3, 0, 1),
                Blocks.image(Blocks.NODE, 3, 1, 3, 0, 1, 0, 0, 0, 2));
        Blocks.turn(x, 5, Blocks.image(Blocks.TOP, 3, 1, 5, 3, 4),
                Blocks.image(Blocks.TOP, 3, 1, 5, 3, 4, 0, 0, 0, 0, 0, 4));
        Blocks.turn(x, 6, Blocks.image(Blocks.ROOT, 1, 1, 6, 5, 3, 0),
                Blocks.image(Blocks.ROOT, 1, 1, 6, 5, 3, 0, 0, 0, 9));
        CHECK.due("badAt(0)", x.badAt(0), BookTrees.NONE);
        return x;
    }

    private static BookTrees changedWithStrays() {
        BookTrees x = straysInPages();
        x.put(1, 1);
        CHECK.due("commit()", x.commit(), 2);
        return x;
    }

    private static void entriesWithoutBits() {
        BookTrees x = straysInPages();
        CHECK.due("find(1, 3)", x.find(1, 3), BookTrees.GONE);
        CHECK.due("find(1, 44)", x.find(1, 44), BookTrees.GONE);
        CHECK.due("find(1, 484)", x.find(1, 484), BookTrees.GONE);
        CHECK.due("next(1, 1)", x.next(1, 1), 9);
        Blocks.dueBlocks(CHECK, DamageTest::changedWithStrays, 7,
                Blocks.image(Blocks.LEAF, 3, 2, 7, 10, 1),
                Blocks.image(Blocks.NODE, 3, 2, 8, 7, 1),
                Blocks.image(Blocks.TOP, 3, 2, 9, 8, 4),
                Blocks.image(Blocks.ROOT, 1, 2, 10, 9, 4, 0));
    }

    private static void pagesWithoutBits() {
        BookTrees x = oneVersion();
        Blocks.setMended(x, 2, Blocks.BITS, 0);
        CHECK.due("find(1, 100) of a leaf without bits", x.find(1, 100), BookTrees.GONE);
        CHECK.due("next(1, 10)", x.next(1, 10), BookTrees.NONE);
        CHECK.due("copy()", x.copy(), 2);
        // Leaves 0 and 1, node 0, the TOP, the ROOT: leaf 12 is not there, so node 1 has no leaves.
        CHECK.due("told(1)", x.told(1), 12);
        Blocks.dueBlock(CHECK, x, Blocks.image(Blocks.TOP, 1, 2, 10, 9), 10);
        Blocks.dueBlock(CHECK, x, Blocks.image(Blocks.ROOT, 1, 2, 11, 10, 3, 7), 11);

        BookTrees y = oneVersion();
        Blocks.setMended(y, 3, Blocks.BITS, 0);
        CHECK.due("find(1, 0) of a node without bits", y.find(1, 0), BookTrees.GONE);
        CHECK.due("next(1, 0)", y.next(1, 0), 100);
        y.drop(0);
        CHECK.due("commit()", y.commit(), 2);
        Blocks.dueBlock(CHECK, y, Blocks.image(Blocks.TOP, 2, 2, 7, 0, 4), 7);
        Blocks.dueBlock(CHECK, y, Blocks.image(Blocks.ROOT, 1, 2, 8, 7, 3, 0), 8);
        y.put(100, 5);
        CHECK.due("commit()", y.commit(), 3);
        CHECK.due("find(3, 0)", y.find(3, 0), BookTrees.GONE);

        BookTrees z = oneVersion();
        Blocks.setMended(z, 5, Blocks.BITS, 0);
        CHECK.due("next(1, 0) of a TOP without bits", z.next(1, 0), BookTrees.NONE);
        CHECK.due("copy()", z.copy(), 2);
        Blocks.dueBlock(CHECK, z, Blocks.image(Blocks.ROOT, 0, 2, 7, 0, 3, 7), 7);
        CHECK.due("told(1)", z.told(1), 8);

        BookTrees w = oneVersion();
        Blocks.setMended(w, 3, Blocks.BITS, 0);
        w.put(100, 5);
        CHECK.due("commit() beside a node without bits", w.commit(), 2);
        Blocks.dueBlock(CHECK, w, Blocks.image(Blocks.TOP, 3, 2, 9, 3, 8), 9);
    }

    /** Leaf 5 of node 0 is the block of leaf 12 as well, node 7 the block of node 1. */
    private static void sharedPages() {
        BookTrees x = oneVersion();
        Blocks.set(x, 3, Blocks.BITS, 3 | 32);
        Blocks.setIntMended(x, 3, Blocks.entry(5), 2);
        Blocks.set(x, 5, Blocks.BITS, 3 | 128);
        Blocks.setIntMended(x, 5, Blocks.entry(7), 4);
        CHECK.due("find(1, 44)", x.find(1, 44), 12);
        CHECK.due("find(1, 484)", x.find(1, 484), 12);
        CHECK.due("next(1, 101)", x.next(1, 101), 484);
        x.put(44, 9);
        CHECK.due("commit()", x.commit(), 2);
        CHECK.due("find(2, 44)", x.find(2, 44), 9);
        CHECK.due("find(2, 100)", x.find(2, 100), 12);
        CHECK.due("rows(2)", x.rows(2), 3);
        CHECK.due("told(1)", x.told(1), 11);
        // Leaves 0, 1, 5, 12, 60, nodes 0, 1, 7, the TOP, the ROOT are one too many for 20 slots.
        CHECK.due("copy()", x.copy(), BookTrees.FULL);
        CHECK.due("told(0)", x.told(0), 0);

        BookTrees y = oneVersion();
        Blocks.set(y, 5, Blocks.BITS, 3 | 128);
        Blocks.setIntMended(y, 5, Blocks.entry(7), 4);
        CHECK.due("copy() of a shared node", y.copy(), 2);
        CHECK.due("told(1)", y.told(1), 16);
        CHECK.due("find(2, 484)", y.find(2, 484), 12);
        CHECK.due("byteAt(14, 39), node 7 on its own", y.byteAt(14, 39), 13);
        CHECK.due("byteAt(13, 27), and its leaf", y.byteAt(13, 27), 10);
        CHECK.due("rows(2)", y.rows(2), 3);
    }

    private static void wholeRoots() {
        int version = Blocks.VERSION;
        int start = Blocks.entry(2);
        int number = Blocks.NUMBER;
        wholeRoot(version, 1000000, true);
        wholeRoot(version, 1000001, false);
        wholeRoot(version, 0, false);
        wholeRoot(version, -1, false);
        wholeRoot(version, Integer.MIN_VALUE, false);
        wholeRoot(version, Integer.MAX_VALUE, false);
        wholeRoot(start, 6, true);
        wholeRoot(start, 7, false);
        wholeRoot(start, -1, false);
        wholeRoot(start, Integer.MIN_VALUE, false);
        wholeRoot(start, Integer.MAX_VALUE, false);
        wholeRoot(number, 5, false);
        wholeRoot(number, 7, false);
        wholeRoot(number, -14, false);
        wholeRoot(number, 26, false);
        wholeRoot(Blocks.entry(1), -1, true);
        wholeRoot(Blocks.entry(0), -1, true);
        wholeRoot(Blocks.entry(7), -1, true);
        for (int kind = 0; kind < 256; kind++) {
            if (kind < 8 || kind > 250) {
                BookTrees x = oneVersion();
                Blocks.setMended(x, 6, 0, kind);
                CHECK.due("reopen() with kind " + kind, x.reopen(), kind == Blocks.ROOT ? 1 : 0);
            }
        }
        BookTrees y = oneVersion();
        Blocks.setMended(y, 6, Blocks.BITS, 0);
        CHECK.due("reopen() with a root without bits", y.reopen(), 1);
        y.poke(6, 57, 1);
        CHECK.due("reopen() with a wrong sum", y.reopen(), 0);
    }

    private static void wholeRoot(int at, int value, boolean whole) {
        BookTrees x = oneVersion();
        Blocks.setIntMended(x, 6, at, value);
        int version = at == Blocks.VERSION ? value : 1;
        CHECK.due("reopen() with " + value + " at " + at, x.reopen(), whole ? version : 0);
        CHECK.due("told(1)", x.told(1), whole ? 7 : 0);
        CHECK.due("told(0)", x.told(0), whole && at == Blocks.entry(2) ? value : 0);
    }

    /** Roots in 0, 1, .. whose versions are altered to those given, and their rows to 100, 101, .. */
    private static BookTrees roots(int... versions) {
        BookTrees x = new BookTrees(16);
        for (int i = 0; i < versions.length; i++) {
            x.drop(0);
            x.commit();
        }
        for (int i = 0; i < versions.length; i++) {
            Blocks.turn(x, i, Blocks.image(Blocks.ROOT, 0, i + 1, i),
                    Blocks.image(Blocks.ROOT, 0, versions[i], i, 0, 100 + i));
        }
        return x;
    }

    private static void severalRoots() {
        BookTrees x = roots(3, 1, 3, 2, 1);
        CHECK.due("kept(0) as before", x.kept(0), 5);
        CHECK.due("reopen()", x.reopen(), 3);
        CHECK.due("told(1)", x.told(1), 3);
        CHECK.due("kept(0)", x.kept(0), 3);
        CHECK.due("kept(1)", x.kept(1), 1);
        CHECK.due("kept(2)", x.kept(2), 0);
        CHECK.due("kept(3)", x.kept(3), BookTrees.NONE);
        CHECK.due("rows(3)", x.rows(3), 102);
        CHECK.due("rows(1)", x.rows(1), 101);
        CHECK.argument("rows(2)", () -> x.rows(2));
        CHECK.argument("byteAt(3, 0)", () -> x.byteAt(3, 0));
        x.drop(0);
        CHECK.due("commit()", x.commit(), 4);
        CHECK.due("rows(4)", x.rows(4), 102);
        CHECK.due("told(1)", x.told(1), 4);
        CHECK.due("reopen()", x.reopen(), 4);

        BookTrees y = roots(2, 5, 2, 4, 9);
        CHECK.due("reopen()", y.reopen(), 9);
        int[] want = {9, 5, 4, 2, 0, BookTrees.NONE};
        for (int k = 0; k < want.length; k++) {
            CHECK.due("kept(" + k + ")", y.kept(k), want[k]);
        }
        CHECK.due("rows(2)", y.rows(2), 102);
        CHECK.due("rows(5)", y.rows(5), 101);
        CHECK.due("copy()", y.copy(), 10);
        CHECK.due("rows(10)", y.rows(10), 104);
    }

    /** Roots in 14 .. 17, the last two in slots 0 and 1, with the versions given; START is 14, slots 2 .. 13 have versions 3 .. 14. */
    private static BookTrees rootsOverTheEnd(int... versions) {
        BookTrees x = new BookTrees(16);
        for (int version = 1; version <= 14; version++) {
            x.drop(0);
            x.commit();
        }
        x.copy();
        for (int version = 16; version <= 18; version++) {
            x.drop(0);
            x.commit();
        }
        CHECK.due("told(0)", x.told(0), 14);
        CHECK.due("told(1)", x.told(1), 18);
        for (int i = 0; i < versions.length; i++) {
            Blocks.turn(x, 14 + i, Blocks.image(Blocks.ROOT, 0, 15 + i, 14 + i, 0, 0, 14),
                    Blocks.image(Blocks.ROOT, 0, versions[i], 14 + i, 0, 100 + i, 14));
        }
        return x;
    }

    private static void severalRootsOverTheEnd() {
        BookTrees x = rootsOverTheEnd(4, 9, 4, 9);
        CHECK.due("reopen(), an old root is the newest", x.reopen(), 14);
        CHECK.due("told(0)", x.told(0), 0);
        CHECK.due("told(1)", x.told(1), 14);
        CHECK.due("kept(11)", x.kept(11), 3);
        CHECK.due("kept(12)", x.kept(12), 0);
        CHECK.due("kept(13)", x.kept(13), BookTrees.NONE);
        CHECK.due("rows(4)", x.rows(4), 0);

        BookTrees y = rootsOverTheEnd(24, 29, 24, 29);
        CHECK.due("reopen()", y.reopen(), 29);
        CHECK.due("told(0)", y.told(0), 14);
        CHECK.due("told(1), behind the greater number", y.told(1), 18);
        CHECK.due("rows(29)", y.rows(29), 103);
        CHECK.due("rows(24)", y.rows(24), 102);
        CHECK.due("kept(1)", y.kept(1), 24);
        CHECK.due("kept(2)", y.kept(2), BookTrees.NONE);
    }

    private static void farNumbers() {
        BookTrees x = oneVersion();
        // Slot 6 of 20 is that of block 999986, and of 1000006, which is beyond a whole root's number.
        Blocks.setInt(x, 6, Blocks.NUMBER, 999986);
        Blocks.setIntMended(x, 6, Blocks.entry(2), 999986 - 19);
        CHECK.due("reopen() at block 999986", x.reopen(), 1);
        CHECK.due("told(0)", x.told(0), 999967);
        CHECK.due("told(1)", x.told(1), 999987);
        CHECK.due("kept(1)", x.kept(1), BookTrees.NONE);
        CHECK.due("rows(1)", x.rows(1), 3);
        CHECK.due("find(1, 0)", x.find(1, 0), BookTrees.BADLY);
        CHECK.due("badAt(0)", x.badAt(0), 999967);
        CHECK.due("badAt(18)", x.badAt(18), 999985);
        CHECK.due("badAt(19)", x.badAt(19), BookTrees.NONE);
        x.drop(0);
        CHECK.due("commit()", x.commit(), BookTrees.BAD);
        Blocks.setIntMended(x, 999986, Blocks.entry(2), 999986 - 20);
        CHECK.due("reopen() with START too far below", x.reopen(), 0);

        BookTrees y = new BookTrees(16);
        y.drop(0);
        y.commit();
        Blocks.setInt(y, 0, Blocks.NUMBER, 1000000);
        Blocks.setIntMended(y, 0, Blocks.entry(2), 1000000);
        CHECK.due("reopen() at block 1000000", y.reopen(), 1);
        y.drop(0);
        CHECK.due("commit() beyond it", y.commit(), 2);
        CHECK.due("told(1)", y.told(1), 1000002);
        CHECK.due("reopen() at block 1000000 again", y.reopen(), 1);
        CHECK.due("told(1)", y.told(1), 1000001);
        Blocks.setInt(y, 1000000, Blocks.NUMBER, 1000016);
        Blocks.setIntMended(y, 1000000, Blocks.entry(2), 1000016);
        CHECK.due("reopen() at block 1000016", y.reopen(), 0);
    }

    private static void startOfRoots() {
        BookTrees x = roots(1, 2, 3, 4, 5);
        Blocks.setIntMended(x, 4, Blocks.entry(2), 2);
        CHECK.due("told(0) as before", x.told(0), 0);
        CHECK.due("reopen()", x.reopen(), 5);
        CHECK.due("told(0)", x.told(0), 2);
        CHECK.due("kept(2)", x.kept(2), 3);
        CHECK.due("kept(3)", x.kept(3), BookTrees.NONE);
        CHECK.argument("rows(2)", () -> x.rows(2));
        CHECK.argument("rows(0)", () -> x.rows(0));
        x.drop(0);
        CHECK.due("commit()", x.commit(), 6);
        CHECK.due("byteAt(5, 19)", x.byteAt(5, 19), 2);
        for (int version = 7; version <= 18; version++) {
            x.drop(0);
            CHECK.due("commit()", x.commit(), version);
        }
        x.drop(0);
        CHECK.due("commit() of one more than 16", x.commit(), BookTrees.FULL);
    }
}
