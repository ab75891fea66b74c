/** The edges that the document's terms name for versions, the draft, a commit and a copy. One test for each sentence. */
public final class VersionEdgesTest {
    private static final Check CHECK = new Check("VersionEdgesTest");

    public static void main(String[] args) {
        CHECK.of("Version 0 has no rows, and no blocks", VersionEdgesTest::version0);
        CHECK.of("Other KEPT versions are those whose roots are used blocks", VersionEdgesTest::rootsFromStartOn);
        CHECK.of("(of several roots with one version the greatest block)", VersionEdgesTest::severalRoots);
        CHECK.of("version 0 is kept as long as START is 0", VersionEdgesTest::version0TillStartMoves);
        CHECK.of("The NEWEST is the greatest one", VersionEdgesTest::newestIsGreatest);
        CHECK.of("or that the row is dropped (also if it is not there)", VersionEdgesTest::dropsOfNothing);
        CHECK.of("A COMMIT, if the draft is not empty: else nothing is written", VersionEdgesTest::emptyDraft);
        CHECK.of("A COMMIT, if the draft is not empty: else it is never FULL", VersionEdgesTest::emptyDraftOnFullRoll);
        CHECK.of("A COMMIT, if the draft is not empty: else it is never BAD", VersionEdgesTest::emptyDraftOverBadBlocks);
        CHECK.of("A COMMIT, if the draft is not empty: else it is never CUT", VersionEdgesTest::emptyDraftBeforeACrash);
        CHECK.of("if one of these is BAD the commit is BAD, and nothing changes", VersionEdgesTest::badCommit);
        CHECK.of("leaves that the draft has keys of are looked for: no others", VersionEdgesTest::badElsewhere);
        CHECK.of("changed, and written as new blocks: also with the values that they had", VersionEdgesTest::sameValue);
        CHECK.of("one behind the other from END on, with the next VERSION", VersionEdgesTest::fromEndOn);
        CHECK.of("those leaves that have rows", VersionEdgesTest::leafWithoutRows);
        CHECK.of("by their numbers", VersionEdgesTest::byTheirNumbers);
        CHECK.of("the nodes over any changed leaf that have leaves", VersionEdgesTest::nodeWithoutLeaves);
        CHECK.of("then the TOP, if it has nodes", VersionEdgesTest::topWithoutNodes);
        CHECK.of("then a ROOT: of no rows as well", VersionEdgesTest::rootAlways);
        CHECK.of("The newest version is this one then, the draft is empty", VersionEdgesTest::behindACommit);
        CHECK.of("If there is not room for all of them it is FULL: they just fit", VersionEdgesTest::commitFits);
        CHECK.of("If there is not room for all of them it is FULL, and nothing changes", VersionEdgesTest::commitTooLarge);
        CHECK.of("it is FULL, and nothing changes: nothing of it is in a later commit", VersionEdgesTest::commitBehindFull);
        CHECK.of("the commit is BAD, and nothing changes: nothing of it is in a later commit", VersionEdgesTest::commitBehindBad);
        CHECK.of("FULL: what is not written needs no room", VersionEdgesTest::commitWithoutLeavesFits);
        CHECK.of("A COPY writes all leaves, nodes, the TOP: of no rows", VersionEdgesTest::copyOfNothing);
        CHECK.of("A COPY writes all leaves, nodes, the TOP: of every leaf", VersionEdgesTest::copyOfAll);
        CHECK.of("(its entry 1 as in the newest version's root)", VersionEdgesTest::copyOfEntry1);
        CHECK.of("START is the first of these blocks then (in that ROOT, too)", VersionEdgesTest::startOfCopy);
        CHECK.of("The draft stays", VersionEdgesTest::draftStays);
        CHECK.of("COPY: BAD .. as for a commit", VersionEdgesTest::badCopy);
        CHECK.of("COPY: FULL as for a commit: it just fits", VersionEdgesTest::copyFits);
        CHECK.of("for FULL all blocks used up to now count", VersionEdgesTest::copyTooLarge);
        CHECK.end();
    }

    private static void version0() {
        BookTrees x = new BookTrees(16);
        CHECK.due("rows(0)", x.rows(0), 0);
        CHECK.due("next(0, 0)", x.next(0, 0), BookTrees.NONE);
        CHECK.due("told(1)", x.told(1), 0);
        for (int key = 0; key < 512; key += 73) {
            CHECK.due("find(0, " + key + ")", x.find(0, key), BookTrees.GONE);
        }
        x.put(0, 1);
        x.commit();
        for (int block = 0; block <= 3; block++) {
            x.poke(block, 0, 255);
        }
        CHECK.due("rows(0) beside bad blocks", x.rows(0), 0);
        CHECK.due("find(0, 0) beside bad blocks", x.find(0, 0), BookTrees.GONE);
        CHECK.due("next(0, 0) beside bad blocks", x.next(0, 0), BookTrees.NONE);
    }

    /** The root in block START is kept, that in the block below is not. */
    private static void rootsFromStartOn() {
        BookTrees x = Rolls.roots(16, 4);
        x.copy();
        Rolls.addRoots(x, 2);
        CHECK.due("told(0)", x.told(0), 4);
        CHECK.due("rows(5), its root in START", x.rows(5), 0);
        CHECK.argument("rows(4), its root below START", () -> x.rows(4));
        CHECK.due("rows(7), its root below END", x.rows(7), 0);
        CHECK.argument("rows(8), without a root", () -> x.rows(8));
        CHECK.due("kept(2)", x.kept(2), 5);
        CHECK.due("kept(3)", x.kept(3), BookTrees.NONE);
    }

    private static void severalRoots() {
        BookTrees x = Rolls.roots(16, 4);
        Blocks.turn(x, 0, Blocks.image(Blocks.ROOT, 0, 1, 0), Blocks.image(Blocks.ROOT, 0, 2, 0, 0, 100));
        Blocks.turn(x, 1, Blocks.image(Blocks.ROOT, 0, 2, 1), Blocks.image(Blocks.ROOT, 0, 2, 1, 0, 101));
        Blocks.turn(x, 2, Blocks.image(Blocks.ROOT, 0, 3, 2), Blocks.image(Blocks.ROOT, 0, 1, 2, 0, 102));
        CHECK.due("reopen()", x.reopen(), 4);
        CHECK.due("kept(1)", x.kept(1), 2);
        CHECK.due("kept(2)", x.kept(2), 1);
        CHECK.due("kept(3)", x.kept(3), 0);
        CHECK.due("kept(4)", x.kept(4), BookTrees.NONE);
        CHECK.due("rows(2)", x.rows(2), 101);
        CHECK.due("rows(1)", x.rows(1), 102);
    }

    private static void version0TillStartMoves() {
        BookTrees x = new BookTrees(16);
        CHECK.due("find(0, 0)", x.find(0, 0), BookTrees.GONE);
        CHECK.due("copy() from block 0 on", x.copy(), 1);
        CHECK.due("find(0, 0), START is 0 still", x.find(0, 0), BookTrees.GONE);
        CHECK.due("kept(1)", x.kept(1), 0);
        CHECK.due("reopen()", x.reopen(), 1);
        CHECK.due("find(0, 0) reopened", x.find(0, 0), BookTrees.GONE);
        Rolls.addRoots(x, 1);
        CHECK.due("kept(2)", x.kept(2), 0);
        CHECK.due("copy() from block 2 on", x.copy(), 3);
        CHECK.argument("find(0, 0), START is 2", () -> x.find(0, 0));
        CHECK.argument("next(0, 0)", () -> x.next(0, 0));
        CHECK.argument("rows(0)", () -> x.rows(0));
        CHECK.due("kept(1)", x.kept(1), BookTrees.NONE);
        CHECK.due("reopen()", x.reopen(), 3);
        CHECK.argument("find(0, 0) reopened", () -> x.find(0, 0));
        x.poke(2, 0, 1);
        CHECK.due("reopen() without the copy", x.reopen(), 2);
        CHECK.due("find(0, 0), START is 0 again", x.find(0, 0), BookTrees.GONE);
    }

    /** A root of a greater version lies below one of a lesser. */
    private static void newestIsGreatest() {
        BookTrees x = Rolls.roots(16, 3);
        Blocks.setIntMended(x, 1, Blocks.VERSION, 500);
        CHECK.due("reopen()", x.reopen(), 500);
        CHECK.due("told(2)", x.told(2), 500);
        CHECK.due("told(1)", x.told(1), 2);
        CHECK.due("kept(0)", x.kept(0), 500);
        CHECK.due("kept(1)", x.kept(1), 1);
        x.drop(0);
        CHECK.due("commit()", x.commit(), 501);
        CHECK.due("told(2)", x.told(2), 501);
        CHECK.due("told(1)", x.told(1), 3);
    }

    private static void dropsOfNothing() {
        BookTrees x = new BookTrees(16);
        CHECK.due("drop(511)", x.drop(511), 1);
        CHECK.due("get(511)", x.get(511), BookTrees.GONE);
        CHECK.due("commit()", x.commit(), 1);
        CHECK.due("told(1)", x.told(1), 1);
        CHECK.due("rows(1)", x.rows(1), 0);
        CHECK.due("find(1, 511)", x.find(1, 511), BookTrees.GONE);
    }

    private static void emptyDraft() {
        BookTrees x = new BookTrees(16);
        CHECK.due("commit() of a new one", x.commit(), 0);
        CHECK.due("told(1)", x.told(1), 0);
        x.put(0, 1);
        x.commit();
        CHECK.due("commit() twice", x.commit(), 1);
        x.put(0, 2);
        x.undo();
        CHECK.due("commit() of what was undone", x.commit(), 1);
        CHECK.due("told(1)", x.told(1), 4);
        CHECK.due("told(2)", x.told(2), 1);
        CHECK.due("told(3)", x.told(3), 256);
    }

    private static void emptyDraftOnFullRoll() {
        BookTrees x = Rolls.roots(16, 16);
        CHECK.due("commit()", x.commit(), 16);
        x.drop(0);
        CHECK.due("commit() of a change", x.commit(), BookTrees.FULL);
    }

    private static void emptyDraftOverBadBlocks() {
        BookTrees x = Rolls.threeRows(16);
        for (int block = 0; block <= 6; block++) {
            x.poke(block, 0, 128);
        }
        CHECK.due("commit()", x.commit(), 1);
        x.drop(0);
        CHECK.due("commit() of a change", x.commit(), BookTrees.BAD);
    }

    private static void emptyDraftBeforeACrash() {
        BookTrees x = Rolls.roots(16, 2);
        x.crash(1);
        CHECK.due("commit()", x.commit(), 2);
        CHECK.due("isDown()", x.isDown(), false);
        x.drop(0);
        CHECK.due("commit() of a change", x.commit(), BookTrees.CUT);
    }

    private static void badCommit() {
        int[] way = {0, 3, 5, 6};
        for (int block : way) {
            BookTrees x = Rolls.threeRows(16);
            x.put(3, 7);
            x.drop(500);
            x.poke(block, 62, 1);
            String before = Rolls.state(x);
            CHECK.due("commit() over block " + block, x.commit(), BookTrees.BAD);
            CHECK.due("all behind commit() over block " + block, Rolls.state(x), before);
            x.poke(block, 62, 1);
            CHECK.due("commit(), mended", x.commit(), 2);
            CHECK.due("find(2, 3)", x.find(2, 3), 7);
        }
    }

    private static void badElsewhere() {
        for (int block : new int[] {1, 2, 4}) {
            BookTrees x = Rolls.threeRows(16);
            x.put(3, 7);
            x.poke(block, 62, 1);
            CHECK.due("commit() beside block " + block, x.commit(), 2);
            CHECK.due("find(2, 3)", x.find(2, 3), 7);
            CHECK.due("find(2, 0)", x.find(2, 0), 10);
            CHECK.due("badAt(0)", x.badAt(0), block);
        }
    }

    private static void sameValue() {
        BookTrees x = Rolls.oneRow(16, 5, 78);
        x.put(5, 78);
        CHECK.due("commit()", x.commit(), 2);
        CHECK.due("told(1)", x.told(1), 8);
        Blocks.dueBlock(CHECK, x, Blocks.image(Blocks.LEAF, 32, 2, 4, 0, 0, 0, 0, 0, 78), 4);
        x.drop(6);
        CHECK.due("commit() of a drop of nothing", x.commit(), 3);
        CHECK.due("told(1)", x.told(1), 12);
        Blocks.dueBlock(CHECK, x, Blocks.image(Blocks.LEAF, 32, 3, 8, 0, 0, 0, 0, 0, 78), 8);
    }

    private static void fromEndOn() {
        BookTrees x = Rolls.roots(16, 3);
        x.put(70, 1);
        CHECK.due("commit()", x.commit(), 4);
        Blocks.dueBlock(CHECK, x, Blocks.image(Blocks.LEAF, 64, 4, 3, 0, 0, 0, 0, 0, 0, 1), 3);
        Blocks.dueBlock(CHECK, x, Blocks.image(Blocks.NODE, 1, 4, 4, 3), 4);
        Blocks.dueBlock(CHECK, x, Blocks.image(Blocks.TOP, 2, 4, 5, 0, 4), 5);
        Blocks.dueBlock(CHECK, x, Blocks.image(Blocks.ROOT, 1, 4, 6, 5, 1), 6);
        CHECK.due("told(1)", x.told(1), 7);
        CHECK.due("told(3)", x.told(3), 7 * 64);
    }

    private static void leafWithoutRows() {
        BookTrees x = Rolls.leaves(16, 2);
        x.drop(8);
        CHECK.due("commit()", x.commit(), 2);
        CHECK.due("told(1), a node, the TOP, the ROOT more", x.told(1), 8);
        Blocks.dueBlock(CHECK, x, Blocks.image(Blocks.NODE, 1, 2, 5, 0), 5);
        CHECK.due("find(2, 8)", x.find(2, 8), BookTrees.GONE);
        CHECK.due("find(1, 8)", x.find(1, 8), 8);
    }

    private static void byTheirNumbers() {
        BookTrees x = new BookTrees(30);
        int[] keys = {511, 64, 300, 0, 63, 8};
        for (int key : keys) {
            x.put(key, 1);
        }
        x.commit();
        int[] bits = {1, 1, 128, 1, 16, 128};
        for (int block = 0; block < bits.length; block++) {
            CHECK.due("byteAt(" + block + ", 0)", x.byteAt(block, 0), Blocks.LEAF);
            CHECK.due("byteAt(" + block + ", 1)", x.byteAt(block, 1), bits[block]);
        }
        // Leaves 0, 1, 7 under node 0 in 6, leaf 8 under node 1 in 7, leaf 37 under node 4 in 8, leaf 63 under node 7 in 9.
        int[] nodeBits = {131, 1, 32, 128};
        for (int i = 0; i < nodeBits.length; i++) {
            CHECK.due("byteAt(" + (6 + i) + ", 1)", x.byteAt(6 + i, 1), nodeBits[i]);
        }
        Blocks.dueBlock(CHECK, x, Blocks.image(Blocks.TOP, 147, 1, 10, 6, 7, 0, 0, 8, 0, 0, 9), 10);
    }

    private static void nodeWithoutLeaves() {
        BookTrees x = Rolls.threeRows(16);
        x.drop(100);
        CHECK.due("commit()", x.commit(), 2);
        CHECK.due("told(1), the TOP and the ROOT more", x.told(1), 9);
        Blocks.dueBlock(CHECK, x, Blocks.image(Blocks.TOP, 1, 2, 7, 3), 7);
        x.drop(70);
        CHECK.due("commit() in a node that is not there", x.commit(), 3);
        CHECK.due("told(1), the TOP and the ROOT more", x.told(1), 11);
        Blocks.dueBlock(CHECK, x, Blocks.image(Blocks.TOP, 1, 3, 9, 3), 9);
        x.drop(63);
        CHECK.due("commit() in a leaf that is not there", x.commit(), 4);
        CHECK.due("told(1), the node over it, the TOP, the ROOT more", x.told(1), 14);
        Blocks.dueBlock(CHECK, x, Blocks.image(Blocks.NODE, 3, 4, 11, 0, 1), 11);
    }

    private static void topWithoutNodes() {
        BookTrees x = Rolls.threeRows(16);
        x.drop(0);
        x.drop(9);
        x.drop(100);
        CHECK.due("commit()", x.commit(), 2);
        CHECK.due("told(1), just the ROOT more", x.told(1), 8);
        Blocks.dueBlock(CHECK, x, Blocks.image(Blocks.ROOT, 0, 2, 7), 7);
        CHECK.due("next(2, 0)", x.next(2, 0), BookTrees.NONE);
    }

    private static void rootAlways() {
        BookTrees x = new BookTrees(16);
        for (int version = 1; version <= 3; version++) {
            x.drop(version);
            CHECK.due("commit()", x.commit(), version);
            CHECK.due("told(1)", x.told(1), version);
            CHECK.due("byteAt(.., 0)", x.byteAt(version - 1, 0), Blocks.ROOT);
        }
    }

    private static void behindACommit() {
        BookTrees x = new BookTrees(16);
        x.put(0, 1);
        x.drop(1);
        CHECK.due("commit()", x.commit(), 1);
        CHECK.due("told(2)", x.told(2), 1);
        CHECK.due("told(4)", x.told(4), 0);
        CHECK.due("kept(0)", x.kept(0), 1);
        CHECK.due("undo()", x.undo(), 0);
        CHECK.due("get(0)", x.get(0), 1);
    }

    /** Leaves and nodes each with one row: 2 n + 2 blocks. */
    private static void putNodes(BookTrees x, int count) {
        for (int node = 0; node < count; node++) {
            x.put(64 * node, node);
        }
    }

    private static void commitFits() {
        BookTrees x = new BookTrees(16);
        putNodes(x, 7);
        CHECK.due("commit() of 16 in 16", x.commit(), 1);
        CHECK.due("told(1)", x.told(1), 16);
        CHECK.due("find(1, 384)", x.find(1, 384), 6);
        BookTrees y = Rolls.roots(16, 2);
        putNodes(y, 6);
        CHECK.due("commit() of 14 behind 2 in 16", y.commit(), 3);
        CHECK.due("told(1)", y.told(1), 16);
        BookTrees z = Rolls.copies(16, 13);
        putNodes(z, 6);
        z.put(8, 1);
        CHECK.due("commit() of 15 behind 1 in 16, over the end", z.commit(), 14);
        CHECK.due("told(1)", z.told(1), 28);
        CHECK.due("badAt(0)", z.badAt(0), BookTrees.NONE);
        CHECK.due("find(14, 320)", z.find(14, 320), 5);
    }

    private static void commitTooLarge() {
        BookTrees x = new BookTrees(16);
        putNodes(x, 7);
        x.put(8, 1);
        dueFull(x, "commit() of 17 in 16");
        BookTrees y = Rolls.roots(16, 3);
        putNodes(y, 6);
        dueFull(y, "commit() of 14 behind 3 in 16");
        y.undo();
        Rolls.addRoots(y, 13);
        CHECK.due("told(1)", y.told(1), 16);
        BookTrees z = Rolls.copies(16, 13);
        Rolls.addRoots(z, 1);
        putNodes(z, 6);
        z.put(8, 1);
        dueFull(z, "commit() of 15 behind 2 in 16, over the end");
        CHECK.due("copy()", z.copy(), 15);
        CHECK.due("commit() with room", z.commit(), 16);
        CHECK.due("find(16, 320)", z.find(16, 320), 5);
    }

    private static void dueFull(BookTrees x, String call) {
        String before = Rolls.state(x);
        CHECK.due(call, x.commit(), BookTrees.FULL);
        CHECK.due("all behind " + call, Rolls.state(x), before);
    }

    private static void commitBehindFull() {
        BookTrees x = new BookTrees(16);
        putNodes(x, 8);
        x.put(7, 77);
        x.put(8, 78);
        CHECK.due("commit()", x.commit(), BookTrees.FULL);
        CHECK.due("undo()", x.undo(), 10);
        x.put(1, 9);
        CHECK.due("commit() then", x.commit(), 1);
        dueRow1Alone(x, 1, 0);
    }

    /** A block with one row in leaf 0, and its pages behind it, in a version that had no rows before. */
    private static void dueRow1Alone(BookTrees x, int version, int first) {
        Blocks.dueBlock(CHECK, x, Blocks.image(Blocks.LEAF, 2, version, first, 0, 9), first);
        Blocks.dueBlock(CHECK, x, Blocks.image(Blocks.NODE, 1, version, first + 1, first), first + 1);
        Blocks.dueBlock(CHECK, x, Blocks.image(Blocks.TOP, 1, version, first + 2, first + 1), first + 2);
        Blocks.dueBlock(CHECK, x, Blocks.image(Blocks.ROOT, 1, version, first + 3, first + 2, 1), first + 3);
        CHECK.due("rows()", x.rows(version), 1);
        CHECK.due("next()", x.next(version, 2), BookTrees.NONE);
        CHECK.due("told(1)", x.told(1), first + 4);
    }

    /** Version 2 has rows in leaves 0 and 1; its leaf 1 is bad, then version 1 without rows is the newest again. */
    private static void commitBehindBad() {
        BookTrees x = Rolls.roots(16, 1);
        x.put(0, 5);
        x.put(8, 6);
        x.put(64, 7);
        x.commit();
        x.poke(2, 63, 1);
        x.put(0, 6);
        x.drop(8);
        x.put(65, 7);
        CHECK.due("commit()", x.commit(), BookTrees.BAD);
        x.poke(7, 63, 1);
        CHECK.due("reopen()", x.reopen(), 1);
        x.put(1, 9);
        CHECK.due("commit() then", x.commit(), 2);
        dueRow1Alone(x, 2, 1);
    }

    private static void commitWithoutLeavesFits() {
        BookTrees x = new BookTrees(16);
        putNodes(x, 6);
        CHECK.due("commit() of 14", x.commit(), 1);
        x.drop(0);
        CHECK.due("commit() of the TOP and the ROOT", x.commit(), 2);
        CHECK.due("told(1)", x.told(1), 16);
        BookTrees y = new BookTrees(16);
        putNodes(y, 6);
        y.commit();
        y.drop(0);
        y.drop(8);
        y.put(1, 1);
        CHECK.due("commit() of a leaf, a node, the TOP and the ROOT", y.commit(), BookTrees.FULL);
    }

    private static void copyOfNothing() {
        BookTrees x = Rolls.roots(16, 1);
        CHECK.due("copy()", x.copy(), 2);
        Blocks.dueBlock(CHECK, x, Blocks.image(Blocks.ROOT, 0, 2, 1, 0, 0, 1), 1);
        CHECK.due("told(1)", x.told(1), 2);
        BookTrees y = new BookTrees(16);
        CHECK.due("copy() of version 0", y.copy(), 1);
        Blocks.dueBlock(CHECK, y, Blocks.image(Blocks.ROOT, 0, 1, 0), 0);
        CHECK.due("told(1)", y.told(1), 1);
        CHECK.due("rows(1)", y.rows(1), 0);
    }

    private static void copyOfAll() {
        BookTrees x = Rolls.leaves(200, 64);
        CHECK.due("told(1)", x.told(1), 74);
        CHECK.due("copy()", x.copy(), 2);
        CHECK.due("told(0)", x.told(0), 74);
        CHECK.due("told(1)", x.told(1), 148);
        for (int leaf = 0; leaf < 64; leaf++) {
            CHECK.due("find(2, " + 8 * leaf + ")", x.find(2, 8 * leaf), 8 * leaf);
            CHECK.due("byteAt(" + (74 + leaf) + ", 0)", x.byteAt(74 + leaf, 0), Blocks.LEAF);
        }
        Blocks.dueBlock(CHECK, x, Blocks.image(Blocks.TOP, 255, 2, 146, 138, 139, 140, 141, 142, 143, 144, 145), 146);
        Blocks.dueBlock(CHECK, x, Blocks.image(Blocks.ROOT, 1, 2, 147, 146, 64, 74), 147);
    }

    private static void copyOfEntry1() {
        for (int rows : new int[] {0, 3, 4, -1, 513, Integer.MIN_VALUE, Integer.MAX_VALUE}) {
            BookTrees x = Rolls.threeRows(16);
            if (rows != 3) {
                Blocks.setIntMended(x, 6, Blocks.entry(1), rows);
            }
            CHECK.due("copy()", x.copy(), 2);
            CHECK.due("rows(2)", x.rows(2), rows);
            Blocks.dueBlock(CHECK, x, Blocks.image(Blocks.ROOT, 1, 2, 13, 12, rows, 7), 13);
        }
    }

    private static void startOfCopy() {
        BookTrees x = Rolls.threeRows(40);
        CHECK.due("copy()", x.copy(), 2);
        CHECK.due("told(0)", x.told(0), 7);
        CHECK.due("byteAt(13, 19)", x.byteAt(13, 19), 7);
        CHECK.due("reopen()", x.reopen(), 2);
        CHECK.due("told(0) reopened", x.told(0), 7);
        x.put(0, 1);
        CHECK.due("commit()", x.commit(), 3);
        CHECK.due("told(0) behind a commit", x.told(0), 7);
        CHECK.due("byteAt(17, 19) of the commit's ROOT", x.byteAt(17, 19), 7);
        CHECK.due("copy()", x.copy(), 4);
        CHECK.due("told(0)", x.told(0), 18);
    }

    private static void draftStays() {
        BookTrees x = Rolls.threeRows(40);
        x.put(0, 77);
        x.drop(9);
        x.put(300, 78);
        CHECK.due("copy()", x.copy(), 2);
        CHECK.due("told(4)", x.told(4), 3);
        CHECK.due("get(0)", x.get(0), 77);
        CHECK.due("get(9)", x.get(9), BookTrees.GONE);
        CHECK.due("get(300)", x.get(300), 78);
        CHECK.due("find(2, 0), without the draft", x.find(2, 0), 10);
        CHECK.due("find(2, 9), without the draft", x.find(2, 9), 11);
        CHECK.due("find(2, 300), without the draft", x.find(2, 300), BookTrees.GONE);
        CHECK.due("undo()", x.undo(), 3);
    }

    private static void badCopy() {
        for (int block = 0; block <= 6; block++) {
            BookTrees x = Rolls.threeRows(20);
            x.put(0, 7);
            x.poke(block, 57, 1);
            String before = Rolls.state(x);
            CHECK.due("copy() over block " + block, x.copy(), BookTrees.BAD);
            CHECK.due("all behind copy() over block " + block, Rolls.state(x), before);
            x.poke(block, 57, 1);
            CHECK.due("copy(), mended", x.copy(), 2);
        }
        BookTrees y = Rolls.leaves(16, 7);
        y.poke(0, 0, 1);
        CHECK.due("copy() that is BAD, and FULL if it were not", y.copy(), BookTrees.BAD);
    }

    private static void copyFits() {
        BookTrees x = new BookTrees(16);
        putNodes(x, 3);
        x.commit();
        CHECK.due("copy() of 8 behind 8 in 16", x.copy(), 2);
        CHECK.due("told(0)", x.told(0), 8);
        CHECK.due("told(1)", x.told(1), 16);
        CHECK.due("copy() once more, over the end", x.copy(), 3);
        CHECK.due("told(0)", x.told(0), 16);
        CHECK.due("find(3, 128)", x.find(3, 128), 2);
        BookTrees y = Rolls.roots(16, 15);
        CHECK.due("copy() of 1 behind 15 in 16", y.copy(), 16);
        CHECK.due("told(0)", y.told(0), 15);
    }

    private static void copyTooLarge() {
        BookTrees x = Rolls.roots(16, 1);
        putNodes(x, 3);
        x.commit();
        x.drop(500);
        String before = Rolls.state(x);
        CHECK.due("copy() of 8 behind 9 in 16", x.copy(), BookTrees.FULL);
        CHECK.due("all behind copy() of 8 behind 9", Rolls.state(x), before);
        BookTrees y = Rolls.roots(16, 16);
        CHECK.due("copy() of 1 behind 16 in 16", y.copy(), BookTrees.FULL);
        CHECK.due("told(0)", y.told(0), 0);
        CHECK.due("told(2)", y.told(2), 16);
        CHECK.due("told(3)", y.told(3), 16 * 64);
    }
}
