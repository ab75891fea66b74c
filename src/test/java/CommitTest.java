/** Promise 6: commit, and how its blocks lie on the roll. */
public final class CommitTest {
    private static final Check CHECK = new Check("CommitTest");

    public static void main(String[] args) {
        emptyDraft();
        firstBlocks();
        orderOfBlocks();
        justWhatChanged();
        dropsOfNothing();
        pagesThatEnd();
        rowCounts();
        wholeTree();
        onceMoreFromVersion0();
        full();
        bad();
        withoutPower();
        CHECK.end();
    }

    private static void emptyDraft() {
        BookTrees x = new BookTrees(20);
        CHECK.due("commit() of nothing", x.commit(), 0);
        CHECK.due("told(1)", x.told(1), 0);
        x.put(1, 1);
        x.undo();
        CHECK.due("commit() of what was undone", x.commit(), 0);
        x.put(1, 1);
        CHECK.due("commit()", x.commit(), 1);
        CHECK.due("told(4)", x.told(4), 0);
        CHECK.due("commit() again", x.commit(), 1);
        CHECK.due("told(1)", x.told(1), 4);
        CHECK.due("told(3)", x.told(3), 256);
        CHECK.due("told(2)", x.told(2), 1);
        CHECK.due("told(0)", x.told(0), 0);
    }

    private static void firstBlocks() {
        BookTrees x = new BookTrees(20);
        x.put(77, 0x81A2B3C4);
        x.commit();
        Blocks.dueBlock(CHECK, x, Blocks.image(Blocks.LEAF, 1 << 5, 1, 0, 0, 0, 0, 0, 0, 0x81A2B3C4), 0);
        Blocks.dueBlock(CHECK, x, Blocks.image(Blocks.NODE, 1 << 1, 1, 1, 0, 0), 1);
        Blocks.dueBlock(CHECK, x, Blocks.image(Blocks.TOP, 1 << 1, 1, 2, 0, 1), 2);
        Blocks.dueBlock(CHECK, x, Blocks.image(Blocks.ROOT, 1, 1, 3, 2, 1, 0), 3);
    }

    private static BookTrees fiveRows() {
        BookTrees x = new BookTrees(40);
        x.put(511, 1);
        x.put(70, 2);
        x.put(8, 3);
        x.put(0, 4);
        x.put(15, 5);
        CHECK.due("commit()", x.commit(), 1);
        return x;
    }

    private static void orderOfBlocks() {
        CHECK.due("told(1)", fiveRows().told(1), 9);
        Blocks.dueBlocks(CHECK, CommitTest::fiveRows, 0,
                Blocks.image(Blocks.LEAF, 1, 1, 0, 4),
                Blocks.image(Blocks.LEAF, 129, 1, 1, 3, 0, 0, 0, 0, 0, 0, 5),
                Blocks.image(Blocks.LEAF, 64, 1, 2, 0, 0, 0, 0, 0, 0, 2),
                Blocks.image(Blocks.LEAF, 128, 1, 3, 0, 0, 0, 0, 0, 0, 0, 1),
                Blocks.image(Blocks.NODE, 3, 1, 4, 0, 1),
                Blocks.image(Blocks.NODE, 1, 1, 5, 2),
                Blocks.image(Blocks.NODE, 128, 1, 6, 0, 0, 0, 0, 0, 0, 0, 3),
                Blocks.image(Blocks.TOP, 131, 1, 7, 4, 5, 0, 0, 0, 0, 0, 6),
                Blocks.image(Blocks.ROOT, 1, 1, 8, 7, 5, 0));
    }

    private static void justWhatChanged() {
        BookTrees x = new BookTrees(40);
        x.put(0, 1);
        x.put(9, 2);
        x.put(100, 3);
        x.commit();
        // Leaves 0, 1, 12 in 0 .. 2, nodes 0, 1 in 3 and 4, the TOP in 5, the ROOT in 6.
        x.put(9, 2);
        CHECK.due("commit() of the same value", x.commit(), 2);
        Blocks.dueBlock(CHECK, x, Blocks.image(Blocks.LEAF, 2, 2, 7, 0, 2), 7);
        Blocks.dueBlock(CHECK, x, Blocks.image(Blocks.NODE, 3, 2, 8, 0, 7), 8);
        Blocks.dueBlock(CHECK, x, Blocks.image(Blocks.TOP, 3, 2, 9, 8, 4), 9);
        Blocks.dueBlock(CHECK, x, Blocks.image(Blocks.ROOT, 1, 2, 10, 9, 3, 0), 10);
        CHECK.due("told(1)", x.told(1), 11);
        CHECK.due("find(2, 0)", x.find(2, 0), 1);
        CHECK.due("find(2, 100)", x.find(2, 100), 3);
    }

    private static void dropsOfNothing() {
        BookTrees x = new BookTrees(40);
        x.drop(300);
        CHECK.due("commit()", x.commit(), 1);
        Blocks.dueBlock(CHECK, x, Blocks.image(Blocks.ROOT, 0, 1, 0), 0);
        x.put(0, 1);
        CHECK.due("commit()", x.commit(), 2);
        CHECK.due("told(1)", x.told(1), 5);
        x.drop(5);
        CHECK.due("commit() in a leaf with rows", x.commit(), 3);
        Blocks.dueBlock(CHECK, x, Blocks.image(Blocks.LEAF, 1, 3, 5, 1), 5);
        CHECK.due("told(1)", x.told(1), 9);
        x.drop(8);
        CHECK.due("commit() in a leaf without rows", x.commit(), 4);
        Blocks.dueBlock(CHECK, x, Blocks.image(Blocks.NODE, 1, 4, 9, 5), 9);
        CHECK.due("told(1)", x.told(1), 12);
        x.drop(64);
        CHECK.due("commit() in a node without leaves", x.commit(), 5);
        Blocks.dueBlock(CHECK, x, Blocks.image(Blocks.TOP, 1, 5, 12, 9), 12);
        Blocks.dueBlock(CHECK, x, Blocks.image(Blocks.ROOT, 1, 5, 13, 12, 1, 0), 13);
        CHECK.due("told(1)", x.told(1), 14);
    }

    private static void pagesThatEnd() {
        BookTrees x = new BookTrees(40);
        x.put(0, 1);
        x.put(1, 2);
        x.put(8, 3);
        x.put(511, 4);
        x.commit();
        // Leaves 0, 1, 63, nodes 0, 7, the TOP in 5, the ROOT in 6.
        x.drop(1);
        x.drop(8);
        CHECK.due("commit()", x.commit(), 2);
        Blocks.dueBlock(CHECK, x, Blocks.image(Blocks.LEAF, 1, 2, 7, 1), 7);
        Blocks.dueBlock(CHECK, x, Blocks.image(Blocks.NODE, 1, 2, 8, 7), 8);
        x.drop(0);
        CHECK.due("commit()", x.commit(), 3);
        Blocks.dueBlock(CHECK, x, Blocks.image(Blocks.TOP, 128, 3, 11, 0, 0, 0, 0, 0, 0, 0, 4), 11);
        Blocks.dueBlock(CHECK, x, Blocks.image(Blocks.ROOT, 1, 3, 12, 11, 1, 0), 12);
        x.drop(511);
        CHECK.due("commit()", x.commit(), 4);
        Blocks.dueBlock(CHECK, x, Blocks.image(Blocks.ROOT, 0, 4, 13), 13);
        CHECK.due("told(1)", x.told(1), 14);
    }

    private static void rowCounts() {
        BookTrees x = new BookTrees(60);
        x.put(0, 1);
        x.put(1, 1);
        x.put(200, 1);
        x.commit();
        CHECK.due("rows(1)", x.rows(1), 3);
        x.put(0, 2);
        x.put(3, 2);
        x.drop(4);
        x.commit();
        CHECK.due("rows(2)", x.rows(2), 4);
        x.drop(0);
        x.drop(200);
        x.drop(201);
        x.put(400, 1);
        x.commit();
        CHECK.due("rows(3)", x.rows(3), 3);
        CHECK.due("rows(1) later", x.rows(1), 3);
        x.drop(1);
        x.drop(3);
        x.drop(400);
        x.commit();
        CHECK.due("rows(4)", x.rows(4), 0);
    }

    private static void wholeTree() {
        BookTrees x = new BookTrees(200);
        for (int leaf = 0; leaf < 64; leaf++) {
            x.put(8 * leaf + leaf % 8, -leaf);
        }
        CHECK.due("commit()", x.commit(), 1);
        CHECK.due("told(1)", x.told(1), 64 + 8 + 1 + 1);
        for (int leaf = 0; leaf < 64; leaf++) {
            CHECK.due("find(1, " + (8 * leaf + leaf % 8) + ")", x.find(1, 8 * leaf + leaf % 8), -leaf);
        }
        Blocks.dueBlock(CHECK, x, Blocks.image(Blocks.NODE, 255, 1, 71, 56, 57, 58, 59, 60, 61, 62, 63), 71);
        Blocks.dueBlock(CHECK, x, Blocks.image(Blocks.TOP, 255, 1, 72, 64, 65, 66, 67, 68, 69, 70, 71), 72);
        Blocks.dueBlock(CHECK, x, Blocks.image(Blocks.ROOT, 1, 1, 73, 72, 64, 0), 73);
    }

    /** Nothing of an earlier commit is left in the pages of a later one. */
    private static void onceMoreFromVersion0() {
        BookTrees x = new BookTrees(16);
        x.put(0, 7);
        x.put(9, 8);
        x.put(500, 9);
        CHECK.due("commit()", x.commit(), 1);
        x.poke(6, 0, 1);
        CHECK.due("reopen()", x.reopen(), 0);
        x.put(1, 8);
        CHECK.due("commit()", x.commit(), 1);
        Blocks.dueBlock(CHECK, x, Blocks.image(Blocks.LEAF, 2, 1, 0, 0, 8), 0);
        Blocks.dueBlock(CHECK, x, Blocks.image(Blocks.NODE, 1, 1, 1, 0), 1);
        Blocks.dueBlock(CHECK, x, Blocks.image(Blocks.TOP, 1, 1, 2, 1), 2);
        Blocks.dueBlock(CHECK, x, Blocks.image(Blocks.ROOT, 1, 1, 3, 2, 1, 0), 3);
    }

    private static void full() {
        BookTrees x = new BookTrees(16);
        for (int leaf = 0; leaf < 8; leaf++) {
            x.put(64 * leaf, leaf);
        }
        CHECK.due("commit() of 18", x.commit(), BookTrees.FULL);
        CHECK.due("told(4)", x.told(4), 8);
        CHECK.due("told(2)", x.told(2), 0);
        CHECK.due("told(1)", x.told(1), 0);
        CHECK.due("told(3)", x.told(3), 0);
        CHECK.due("get(448)", x.get(448), 7);
        x.undo();
        for (int leaf = 0; leaf < 7; leaf++) {
            x.put(64 * leaf, leaf);
        }
        CHECK.due("commit() of 16", x.commit(), 1);
        CHECK.due("told(1)", x.told(1), 16);
        for (int leaf = 0; leaf < 7; leaf++) {
            x.drop(64 * leaf);
        }
        CHECK.due("commit() of one root", x.commit(), BookTrees.FULL);
        CHECK.due("kept(0)", x.kept(0), 1);
        CHECK.due("find(1, 64)", x.find(1, 64), 1);
    }

    /** Each page on the way to a key of the draft makes the commit BAD, no other page does. */
    private static void bad() {
        // Leaves 0, 1, 12 in 0 .. 2, nodes 0, 1 in 3 and 4, the TOP in 5, the ROOT in 6.
        int[] keys = {0, 9, 100};
        boolean[][] bad = {
            {true, false, false}, {false, true, false}, {false, false, true}, {true, true, false},
            {false, false, true}, {true, true, true}, {true, true, true},
        };
        for (int block = 0; block < bad.length; block++) {
            for (int k = 0; k < keys.length; k++) {
                BookTrees x = new BookTrees(16);
                for (int key : keys) {
                    x.put(key, key);
                }
                x.commit();
                x.poke(block, 30, 1);
                x.drop(keys[k]);
                x.put(300, 5);
                String call = "commit() over block " + block + " for key " + keys[k];
                CHECK.due(call, x.commit(), bad[block][k] ? BookTrees.BAD : 2);
                CHECK.due("told(4) behind " + call, x.told(4), bad[block][k] ? 2 : 0);
                CHECK.due("told(2) behind " + call, x.told(2), bad[block][k] ? 1 : 2);
                if (bad[block][k]) {
                    CHECK.due("told(1) behind " + call, x.told(1), 7);
                    CHECK.due("told(3) behind " + call, x.told(3), 7 * 64);
                    x.poke(block, 30, 1);
                    CHECK.due(call + ", mended", x.commit(), 2);
                }
            }
        }
        badBeforeFull();
    }

    private static void badBeforeFull() {
        BookTrees x = new BookTrees(16);
        for (int leaf = 0; leaf < 7; leaf++) {
            x.put(64 * leaf, leaf);
        }
        x.commit();
        x.poke(0, 0, 1);
        x.put(0, 9);
        CHECK.due("commit() that is BAD and FULL", x.commit(), BookTrees.BAD);
        CHECK.due("copy() that is BAD and FULL", x.copy(), BookTrees.BAD);
        x.undo();
        CHECK.due("commit() of nothing over a bad leaf", x.commit(), 1);
        x.poke(15, 0, 1);
        CHECK.due("commit() of nothing over a bad root", x.commit(), 1);
    }

    private static void withoutPower() {
        BookTrees x = new BookTrees(16);
        x.put(0, 1);
        x.crash(0);
        CHECK.state("commit()", x::commit);
        x.reopen();
        CHECK.due("told(1)", x.told(1), 0);
        CHECK.due("commit()", x.commit(), 0);
    }
}
