/** Promise 7: copy. */
public final class CopyTest {
    private static final Check CHECK = new Check("CopyTest");

    public static void main(String[] args) {
        ofVersion0();
        ofRows();
        keepsTheDraft();
        makesRoom();
        full();
        bad();
        withoutPower();
        CHECK.end();
    }

    private static void ofVersion0() {
        BookTrees x = new BookTrees(16);
        CHECK.due("copy()", x.copy(), 1);
        Blocks.dueBlock(CHECK, x, Blocks.image(Blocks.ROOT, 0, 1, 0), 0);
        CHECK.due("told(0)", x.told(0), 0);
        CHECK.due("told(1)", x.told(1), 1);
        CHECK.due("kept(0)", x.kept(0), 1);
        CHECK.due("kept(1), as START is 0", x.kept(1), 0);
        CHECK.due("copy()", x.copy(), 2);
        Blocks.dueBlock(CHECK, x, Blocks.image(Blocks.ROOT, 0, 2, 1, 0, 0, 1), 1);
        CHECK.due("kept(1)", x.kept(1), BookTrees.NONE);
        CHECK.argument("find(0, 0)", () -> x.find(0, 0));
        CHECK.argument("byteAt(0, 0)", () -> x.byteAt(0, 0));
    }

    /** Version 1 in 0 .. 6; leaf 63, nodes 0 and 7, the TOP, the ROOT of version 2 in 7 .. 11; a copy behind it. */
    private static BookTrees copied() {
        BookTrees x = new BookTrees(40);
        x.put(0, 1);
        x.put(9, 2);
        x.put(100, 3);
        x.commit();
        x.put(511, 4);
        x.drop(9);
        x.commit();
        CHECK.due("copy()", x.copy(), 3);
        return x;
    }

    private static void ofRows() {
        Blocks.dueBlocks(CHECK, CopyTest::copied, 12,
                Blocks.image(Blocks.LEAF, 1, 3, 12, 1),
                Blocks.image(Blocks.LEAF, 16, 3, 13, 0, 0, 0, 0, 3),
                Blocks.image(Blocks.LEAF, 128, 3, 14, 0, 0, 0, 0, 0, 0, 0, 4),
                Blocks.image(Blocks.NODE, 1, 3, 15, 12),
                Blocks.image(Blocks.NODE, 16, 3, 16, 0, 0, 0, 0, 13),
                Blocks.image(Blocks.NODE, 128, 3, 17, 0, 0, 0, 0, 0, 0, 0, 14),
                Blocks.image(Blocks.TOP, 131, 3, 18, 15, 16, 0, 0, 0, 0, 0, 17),
                Blocks.image(Blocks.ROOT, 1, 3, 19, 18, 3, 12));
        BookTrees x = copied();
        CHECK.due("told(0)", x.told(0), 12);
        CHECK.due("told(1)", x.told(1), 20);
        CHECK.due("told(2)", x.told(2), 3);
        CHECK.due("told(3)", x.told(3), 20 * 64);
        CHECK.due("kept(0)", x.kept(0), 3);
        CHECK.due("kept(1)", x.kept(1), BookTrees.NONE);
        CHECK.argument("find(2, 0)", () -> x.find(2, 0));
        CHECK.argument("rows(0)", () -> x.rows(0));
        CHECK.argument("byteAt(11, 0)", () -> x.byteAt(11, 0));
        x.put(0, 7);
        CHECK.due("commit() behind it", x.commit(), 4);
        Blocks.dueBlock(CHECK, x, Blocks.image(Blocks.ROOT, 1, 4, 23, 22, 3, 12), 23);
        CHECK.due("find(3, 0)", x.find(3, 0), 1);
        CHECK.due("find(4, 0)", x.find(4, 0), 7);
        CHECK.due("find(4, 100)", x.find(4, 100), 3);
    }

    private static void keepsTheDraft() {
        BookTrees x = new BookTrees(40);
        x.put(0, 1);
        x.commit();
        x.put(0, 2);
        x.drop(300);
        CHECK.due("copy()", x.copy(), 2);
        CHECK.due("told(4)", x.told(4), 2);
        CHECK.due("get(0)", x.get(0), 2);
        CHECK.due("find(2, 0)", x.find(2, 0), 1);
        CHECK.due("commit()", x.commit(), 3);
        CHECK.due("find(3, 0)", x.find(3, 0), 2);
    }

    /** With a copy now and then the roll goes on and on, over its end and from slot 0 again. */
    private static void makesRoom() {
        BookTrees x = new BookTrees(16);
        int version = 0;
        int end = 0;
        for (int round = 0; round < 25; round++) {
            for (int i = 0; i < 2; i++) {
                x.put(3, version);
                version++;
                end += 4;
                CHECK.due("commit()", x.commit(), version);
            }
            version++;
            CHECK.due("copy()", x.copy(), version);
            CHECK.due("told(0)", x.told(0), end);
            end += 4;
            CHECK.due("told(1)", x.told(1), end);
            CHECK.due("find(" + version + ", 3)", x.find(version, 3), version - 2);
            CHECK.due("badAt(0)", x.badAt(0), BookTrees.NONE);
            CHECK.due("reopen()", x.reopen(), version);
            CHECK.due("told(0) reopened", x.told(0), end - 4);
            CHECK.due("told(1) reopened", x.told(1), end);
        }
    }

    private static void full() {
        BookTrees x = new BookTrees(16);
        for (int i = 0; i < 3; i++) {
            x.put(3, i);
            x.commit();
        }
        x.put(70, 1);
        CHECK.due("copy() of 4 behind 12", x.copy(), 4);
        CHECK.due("told(0)", x.told(0), 12);
        CHECK.due("commit() of 4 behind 4", x.commit(), 5);
        CHECK.due("copy() of 6 behind 8", x.copy(), 6);
        CHECK.due("told(0)", x.told(0), 20);
        x.drop(70);
        x.put(140, 1);
        CHECK.due("commit() of 4 behind 6", x.commit(), 7);
        CHECK.due("copy() of 6 behind 10", x.copy(), 8);
        CHECK.due("told(0)", x.told(0), 30);
        x.drop(8);
        CHECK.due("commit() of 3 behind 6", x.commit(), 9);
        x.drop(511);
        CHECK.due("commit() of 2 behind 9", x.commit(), 10);
        CHECK.due("told(1)", x.told(1), 41);
        CHECK.due("copy() of 6 behind 11", x.copy(), BookTrees.FULL);
        CHECK.due("told(0) behind FULL", x.told(0), 30);
        CHECK.due("told(1) behind FULL", x.told(1), 41);
        CHECK.due("told(2) behind FULL", x.told(2), 10);
        CHECK.due("kept(2) behind FULL", x.kept(2), 8);
        CHECK.due("told(3) behind FULL", x.told(3), 41 * 64);
        CHECK.due("find(10, 140) behind FULL", x.find(10, 140), 1);
    }

    /** Any page of the newest version makes a copy BAD, no other block does. */
    private static void bad() {
        // Version 1: leaves 0, 1, 12 in 0 .. 2, nodes 0, 1 in 3 and 4, the TOP in 5, the ROOT in 6.
        // Version 2: leaf 0 in 7, node 0 in 8, the TOP in 9, the ROOT in 10.
        boolean[] bad = {false, true, true, false, true, false, false, true, true, true, true};
        for (int block = 0; block < bad.length; block++) {
            BookTrees x = new BookTrees(20);
            x.put(0, 1);
            x.put(9, 2);
            x.put(100, 3);
            x.commit();
            x.put(0, 4);
            x.commit();
            x.poke(block, 60, 128);
            x.put(7, 7);
            CHECK.due("copy() over block " + block, x.copy(), bad[block] ? BookTrees.BAD : 3);
            CHECK.due("told(2)", x.told(2), bad[block] ? 2 : 3);
            CHECK.due("told(1)", x.told(1), bad[block] ? 11 : 18);
            CHECK.due("told(0)", x.told(0), bad[block] ? 0 : 11);
            CHECK.due("told(4)", x.told(4), 1);
        }
    }

    private static void withoutPower() {
        BookTrees x = new BookTrees(16);
        x.crash(0);
        CHECK.state("copy()", x::copy);
        CHECK.due("reopen()", x.reopen(), 0);
    }
}
