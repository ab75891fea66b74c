/** Promises 8 to 11: find, next, rows, kept. */
public final class VersionsTest {
    private static final Check CHECK = new Check("VersionsTest");
    private static final int[] WRONG = {-1, -2, Integer.MIN_VALUE, Integer.MAX_VALUE};

    public static void main(String[] args) {
        finds();
        findsPastBadBlocks();
        nexts();
        nextsPastBadBlocks();
        rowsOfVersions();
        keptVersions();
        wrongArguments();
        withoutPower();
        CHECK.end();
    }

    /** Versions 1 .. 4 over keys of three leaves under two nodes. */
    private static BookTrees fourVersions() {
        BookTrees x = new BookTrees(60);
        x.put(0, 10);
        x.put(9, 11);
        x.put(100, -12);
        x.commit();
        x.put(0, 20);
        x.drop(9);
        x.commit();
        x.put(7, 30);
        x.put(511, Integer.MIN_VALUE);
        x.commit();
        x.drop(0);
        x.drop(7);
        x.drop(100);
        x.drop(511);
        x.commit();
        return x;
    }

    private static void finds() {
        BookTrees x = fourVersions();
        int[] keys = {0, 1, 7, 8, 9, 10, 100, 101, 63, 64, 511, 510};
        long g = BookTrees.GONE;
        long[][] want = {
            {g, g, g, g, g, g, g, g, g, g, g, g},
            {10, g, g, g, 11, g, -12, g, g, g, g, g},
            {20, g, g, g, g, g, -12, g, g, g, g, g},
            {20, g, 30, g, g, g, -12, g, g, g, Integer.MIN_VALUE, g},
            {g, g, g, g, g, g, g, g, g, g, g, g},
        };
        for (int version = 0; version < want.length; version++) {
            for (int k = 0; k < keys.length; k++) {
                CHECK.due("find(" + version + ", " + keys[k] + ")", x.find(version, keys[k]), want[version][k]);
            }
        }
        x.put(0, 99);
        CHECK.due("find(4, 0) beside the draft", x.find(4, 0), g);
    }

    private static void findsPastBadBlocks() {
        // Leaves 0, 1, 12 in 0 .. 2, nodes 0, 1 in 3 and 4, the TOP in 5, the ROOT in 6.
        int[] keys = {0, 7, 8, 9, 16, 63, 64, 100, 103, 104, 128, 511};
        int[][] bad = {
            {0, 7}, {8, 9}, {100, 103}, {0, 7, 8, 9, 16, 63}, {64, 100, 103, 104},
            keys, keys,
        };
        for (int block = 0; block < bad.length; block++) {
            BookTrees x = new BookTrees(60);
            x.put(0, 10);
            x.put(9, 11);
            x.put(100, 12);
            x.commit();
            x.poke(block, 63, 1);
            for (int key : keys) {
                long want = key == 0 ? 10 : key == 9 ? 11 : key == 100 ? 12 : BookTrees.GONE;
                for (int badKey : bad[block]) {
                    want = key == badKey ? BookTrees.BADLY : want;
                }
                CHECK.due("find(1, " + key + ") past block " + block, x.find(1, key), want);
                CHECK.due("find(0, " + key + ")", x.find(0, key), BookTrees.GONE);
            }
        }
    }

    private static void nexts() {
        BookTrees x = new BookTrees(60);
        int[] keys = {0, 1, 7, 8, 23, 64, 130, 500, 511};
        for (int key : keys) {
            x.put(key, 0);
        }
        x.commit();
        int at = 0;
        for (int key = 0; key < 400; key++) {
            while (keys[at] < key) {
                at++;
            }
            CHECK.due("next(1, " + key + ")", x.next(1, key), keys[at]);
        }
        CHECK.due("next(1, 500)", x.next(1, 500), 500);
        CHECK.due("next(1, 501)", x.next(1, 501), 511);
        CHECK.due("next(1, 511)", x.next(1, 511), 511);
        CHECK.due("next(0, 0)", x.next(0, 0), BookTrees.NONE);
        x.drop(511);
        x.put(501, 1);
        CHECK.due("next(1, 501) beside the draft", x.next(1, 501), 511);
        x.commit();
        CHECK.due("next(2, 502)", x.next(2, 502), BookTrees.NONE);
        CHECK.due("next(2, 511)", x.next(2, 511), BookTrees.NONE);
        CHECK.due("next(2, 501)", x.next(2, 501), 501);
        CHECK.due("next(1, 502)", x.next(1, 502), 511);
    }

    private static void nextsPastBadBlocks() {
        BookTrees x = new BookTrees(60);
        x.put(0, 10);
        x.put(9, 11);
        x.put(100, 12);
        x.commit();
        x.poke(1, 9, 1);
        CHECK.due("next(1, 0) ahead of the bad leaf", x.next(1, 0), 0);
        CHECK.due("next(1, 1) up to the bad leaf", x.next(1, 1), BookTrees.BAD);
        CHECK.due("next(1, 15) in the bad leaf", x.next(1, 15), BookTrees.BAD);
        CHECK.due("next(1, 16) behind the bad leaf", x.next(1, 16), 100);
        x.poke(1, 9, 1);
        x.poke(4, 9, 1);
        CHECK.due("next(1, 9) ahead of the bad node", x.next(1, 9), 9);
        CHECK.due("next(1, 10) up to the bad node", x.next(1, 10), BookTrees.BAD);
        CHECK.due("next(1, 127) in the bad node", x.next(1, 127), BookTrees.BAD);
        CHECK.due("next(1, 128) behind the bad node", x.next(1, 128), BookTrees.NONE);
        x.poke(5, 9, 1);
        CHECK.due("next(1, 0) with a bad TOP", x.next(1, 0), BookTrees.BAD);
        CHECK.due("next(1, 511) with a bad TOP", x.next(1, 511), BookTrees.BAD);
        x.poke(5, 9, 1);
        x.poke(6, 9, 1);
        CHECK.due("next(1, 511) with a bad ROOT", x.next(1, 511), BookTrees.BAD);
        CHECK.due("next(0, 0)", x.next(0, 0), BookTrees.NONE);
    }

    private static void rowsOfVersions() {
        BookTrees x = fourVersions();
        int[] want = {0, 3, 2, 4, 0};
        for (int version = 0; version < want.length; version++) {
            CHECK.due("rows(" + version + ")", x.rows(version), want[version]);
        }
        x.poke(0, 0, 1);
        x.poke(5, 0, 1);
        CHECK.due("rows(1) with a bad leaf and TOP", x.rows(1), 3);
        x.poke(6, 0, 1);
        CHECK.due("rows(1) with a bad ROOT", x.rows(1), BookTrees.BAD);
        CHECK.due("rows(2) beside it", x.rows(2), 2);
        x.poke(6, 0, 1);
        CHECK.due("rows(1) mended", x.rows(1), 3);
    }

    private static void keptVersions() {
        BookTrees x = fourVersions();
        for (int k = 0; k <= 4; k++) {
            CHECK.due("kept(" + k + ")", x.kept(k), 4 - k);
        }
        CHECK.due("kept(5)", x.kept(5), BookTrees.NONE);
        CHECK.due("kept(max)", x.kept(Integer.MAX_VALUE), BookTrees.NONE);
        CHECK.due("reopen()", x.reopen(), 4);
        for (int k = 0; k <= 4; k++) {
            CHECK.due("kept(" + k + ") reopened", x.kept(k), 4 - k);
        }
        // The root of version 2 stays kept though it is bad, till the roll is opened anew.
        x.poke(6 + 4, 0, 1);
        CHECK.due("kept(2) with a bad root", x.kept(2), 2);
        CHECK.due("find(2, 0)", x.find(2, 0), BookTrees.BADLY);
        CHECK.due("reopen()", x.reopen(), 4);
        CHECK.due("kept(1)", x.kept(1), 3);
        CHECK.due("kept(2) without it", x.kept(2), 1);
        CHECK.due("kept(3)", x.kept(3), 0);
        CHECK.due("kept(4)", x.kept(4), BookTrees.NONE);
        CHECK.argument("find(2, 0)", () -> x.find(2, 0));
        CHECK.due("copy()", x.copy(), 5);
        CHECK.due("kept(0) copied", x.kept(0), 5);
        CHECK.due("kept(1) copied", x.kept(1), BookTrees.NONE);
        x.put(1, 1);
        x.commit();
        CHECK.due("kept(0)", x.kept(0), 6);
        CHECK.due("kept(1)", x.kept(1), 5);
        CHECK.due("kept(2)", x.kept(2), BookTrees.NONE);
    }

    private static void wrongArguments() {
        BookTrees x = fourVersions();
        for (int wrong : WRONG) {
            CHECK.argument("find(" + wrong + ", 0)", () -> x.find(wrong, 0));
            CHECK.argument("find(1, " + wrong + ")", () -> x.find(1, wrong));
            CHECK.argument("next(" + wrong + ", 0)", () -> x.next(wrong, 0));
            CHECK.argument("next(1, " + wrong + ")", () -> x.next(1, wrong));
            CHECK.argument("rows(" + wrong + ")", () -> x.rows(wrong));
        }
        CHECK.argument("find(5, 0)", () -> x.find(5, 0));
        CHECK.argument("find(1, 512)", () -> x.find(1, 512));
        CHECK.argument("find(0, 512)", () -> x.find(0, 512));
        CHECK.argument("next(5, 0)", () -> x.next(5, 0));
        CHECK.argument("next(1, 512)", () -> x.next(1, 512));
        CHECK.argument("rows(5)", () -> x.rows(5));
        CHECK.argument("kept(-1)", () -> x.kept(-1));
        CHECK.argument("kept(min)", () -> x.kept(Integer.MIN_VALUE));
    }

    private static void withoutPower() {
        BookTrees x = fourVersions();
        x.crash(0);
        CHECK.state("find(1, 0)", () -> x.find(1, 0));
        CHECK.state("find(0, 0)", () -> x.find(0, 0));
        CHECK.state("next(1, 0)", () -> x.next(1, 0));
        CHECK.state("rows(1)", () -> x.rows(1));
        CHECK.state("kept(0)", () -> x.kept(0));
        CHECK.argument("find(5, 0) without power", () -> x.find(5, 0));
        CHECK.argument("find(1, 512) without power", () -> x.find(1, 512));
        CHECK.argument("next(5, 0) without power", () -> x.next(5, 0));
        CHECK.argument("next(1, -1) without power", () -> x.next(1, -1));
        CHECK.argument("rows(5) without power", () -> x.rows(5));
        CHECK.argument("kept(-1) without power", () -> x.kept(-1));
    }
}
