import java.util.Arrays;

/** Promises 12 to 14: crash, reopen, isDown. */
public final class PowerTest {
    private static final Check CHECK = new Check("PowerTest");

    public static void main(String[] args) {
        atOnce();
        cutCommit();
        cutCopy();
        countsOverCalls();
        forgets();
        sameBytesAreTorn();
        tornIsUsed();
        reopenWithPower();
        wrongArguments();
        whileDown();
        CHECK.end();
    }

    private static void atOnce() {
        BookTrees x = new BookTrees(20);
        CHECK.due("isDown()", x.isDown(), false);
        x.put(1, 1);
        x.crash(0);
        CHECK.due("isDown() behind crash(0)", x.isDown(), true);
        CHECK.due("isDown() again", x.isDown(), true);
        CHECK.due("reopen()", x.reopen(), 0);
        CHECK.due("isDown() reopened", x.isDown(), false);
        CHECK.due("told(4)", x.told(4), 0);
        x.put(1, 1);
        CHECK.due("commit() with power", x.commit(), 1);
    }

    /** Version 1 in blocks 0 .. 5; a commit of block 6 .. 9 is cut behind each of its bytes. */
    private static void cutCommit() {
        for (int n = 1; n <= 5 * 64; n++) {
            BookTrees x = new BookTrees(20);
            x.put(0, 1);
            x.put(100, 2);
            x.commit();
            x.crash(n);
            CHECK.due("isDown() behind crash(" + n + ")", x.isDown(), false);
            x.put(0, 3);
            boolean cut = n <= 256;
            boolean whole = n >= 256;
            CHECK.due("commit() with " + n, x.commit(), cut ? BookTrees.CUT : 2);
            CHECK.due("isDown() with " + n, x.isDown(), cut);
            CHECK.due("reopen() with " + n, x.reopen(), whole ? 2 : 1);
            CHECK.due("isDown() reopened", x.isDown(), false);
            CHECK.due("told(1) with " + n, x.told(1), whole ? 10 : 6);
            CHECK.due("told(2) with " + n, x.told(2), whole ? 2 : 1);
            CHECK.due("told(3) with " + n, x.told(3), 6 * 64 + Math.min(n, 256));
            CHECK.due("told(4) with " + n, x.told(4), 0);
            CHECK.due("get(0) with " + n, x.get(0), whole ? 3 : 1);
            CHECK.due("kept(0) with " + n, x.kept(0), whole ? 2 : 1);
            CHECK.due("kept(1) with " + n, x.kept(1), whole ? 1 : 0);
            CHECK.due("badAt(0) with " + n, x.badAt(0), BookTrees.NONE);
            if (whole) {
                Blocks.dueBlock(CHECK, x, Blocks.image(Blocks.ROOT, 1, 2, 9, 8, 2, 0), 9);
            } else {
                writtenAnew(x, n);
            }
        }
    }

    /** The blocks behind a cut are taken anew, with the same version. */
    private static void writtenAnew(BookTrees x, int n) {
        x.put(511, n);
        CHECK.due("commit() anew", x.commit(), 2);
        CHECK.due("told(1) anew", x.told(1), 10);
        CHECK.due("find(2, 511)", x.find(2, 511), n);
        CHECK.due("find(2, 0)", x.find(2, 0), 1);
        CHECK.due("badAt(0) anew", x.badAt(0), BookTrees.NONE);
        CHECK.due("reopen() anew", x.reopen(), 2);
        CHECK.due("find(2, 511) reopened", x.find(2, 511), n);
    }

    private static void cutCopy() {
        for (int n = 1; n <= 257; n++) {
            BookTrees x = new BookTrees(16);
            x.put(9, 1);
            x.commit();
            x.put(9, 2);
            x.commit();
            x.crash(n);
            CHECK.due("copy() with " + n, x.copy(), n <= 256 ? BookTrees.CUT : 3);
            boolean whole = n >= 256;
            CHECK.due("reopen() with " + n, x.reopen(), whole ? 3 : 2);
            CHECK.due("told(0) with " + n, x.told(0), whole ? 8 : 0);
            CHECK.due("told(1) with " + n, x.told(1), whole ? 12 : 8);
            CHECK.due("kept(1) with " + n, x.kept(1), whole ? BookTrees.NONE : 1);
            CHECK.due("get(9) with " + n, x.get(9), 2);
            CHECK.due("badAt(0) with " + n, x.badAt(0), BookTrees.NONE);
        }
    }

    private static void countsOverCalls() {
        BookTrees x = new BookTrees(40);
        x.crash(3 * 256 + 1);
        for (int version = 1; version <= 3; version++) {
            x.put(3, version);
            CHECK.due("commit()", x.commit(), version);
            CHECK.due("isDown()", x.isDown(), false);
        }
        CHECK.due("commit() of nothing", x.commit(), 3);
        x.poke(0, 0, 1);
        x.poke(0, 0, 1);
        x.put(3, 9);
        CHECK.due("commit() with one byte", x.commit(), BookTrees.CUT);
        CHECK.due("reopen()", x.reopen(), 3);
        CHECK.due("told(3)", x.told(3), 3 * 256 + 1);

        BookTrees y = new BookTrees(16);
        y.crash(64);
        for (int leaf = 0; leaf < 8; leaf++) {
            y.put(64 * leaf, 1);
        }
        CHECK.due("commit() that is FULL", y.commit(), BookTrees.FULL);
        CHECK.due("isDown()", y.isDown(), false);
        y.undo();
        y.drop(0);
        CHECK.due("commit() of the last byte", y.commit(), BookTrees.CUT);
        CHECK.due("reopen()", y.reopen(), 1);
    }

    private static void forgets() {
        BookTrees x = new BookTrees(60);
        x.crash(10);
        x.crash(BookTrees.NONE);
        x.put(0, 1);
        CHECK.due("commit() behind crash(NONE)", x.commit(), 1);
        x.crash(10);
        CHECK.due("reopen()", x.reopen(), 1);
        x.put(0, 2);
        CHECK.due("commit() behind reopen()", x.commit(), 2);
        x.crash(10);
        x.crash(300);
        x.put(0, 3);
        CHECK.due("commit() behind crash(300)", x.commit(), 3);
        x.put(0, 4);
        CHECK.due("commit() with 44", x.commit(), BookTrees.CUT);
        CHECK.due("reopen()", x.reopen(), 3);
        x.crash(100000);
        x.put(0, 4);
        CHECK.due("commit() with 100000", x.commit(), 4);
    }

    /** A root whose bytes are all right, but which was not written whole, is not taken. */
    private static void sameBytesAreTorn() {
        for (int n = 1; n <= 64; n++) {
            BookTrees x = new BookTrees(16);
            x.put(0, 1);
            x.commit();
            x.poke(3, n - 1, 1);
            CHECK.due("reopen() with a bad root", x.reopen(), 0);
            x.put(0, 1);
            x.crash(3 * 64 + n);
            CHECK.due("commit()", x.commit(), BookTrees.CUT);
            CHECK.due("reopen() with " + n + " bytes of the root", x.reopen(), n == 64 ? 1 : 0);
            CHECK.due("told(1)", x.told(1), n == 64 ? 4 : 0);
        }
        BookTrees y = new BookTrees(16);
        y.put(0, 1);
        y.commit();
        y.poke(3, 8, 1);
        y.reopen();
        y.put(0, 1);
        y.crash(3 * 64 + 20);
        y.commit();
        y.reopen();
        y.crash(3 * 64);
        y.put(0, 1);
        CHECK.due("commit() up to the root", y.commit(), BookTrees.CUT);
        CHECK.due("reopen() with a torn root still", y.reopen(), 0);
        y.put(0, 1);
        CHECK.due("commit()", y.commit(), 1);
        CHECK.due("reopen() with a whole root", y.reopen(), 1);
        CHECK.due("badAt(0)", y.badAt(0), BookTrees.NONE);
    }

    /** A root that is altered so that the blocks behind a cut are used once more. */
    private static void tornIsUsed() {
        BookTrees x = new BookTrees(16);
        x.drop(0);
        x.commit();
        x.put(0, 5);
        x.commit();
        byte[] leaf = Blocks.read(x, 1);
        x.poke(4, 8, 1);
        CHECK.due("reopen() without version 2", x.reopen(), 1);
        x.put(0, 5);
        x.crash(10);
        CHECK.due("commit()", x.commit(), BookTrees.CUT);
        CHECK.due("reopen()", x.reopen(), 1);
        Blocks.set(x, 0, Blocks.BITS, 1);
        Blocks.setInt(x, 0, Blocks.VERSION, 7);
        Blocks.setInt(x, 0, Blocks.entry(0), 3);
        Blocks.setInt(x, 0, Blocks.entry(2), 1);
        Blocks.setInt(x, 0, Blocks.NUMBER, 16);
        Blocks.mend(x, 0);
        CHECK.due("reopen() at block 16", x.reopen(), 7);
        CHECK.due("told(0)", x.told(0), 1);
        CHECK.due("told(1)", x.told(1), 17);
        CHECK.due("the bytes of block 1 are as they were", Arrays.equals(leaf, Blocks.read(x, 1)), true);
        CHECK.due("badAt(0)", x.badAt(0), 1);
        CHECK.due("badAt(1)", x.badAt(1), 4);
        CHECK.due("find(7, 0)", x.find(7, 0), BookTrees.BADLY);
        CHECK.due("find(7, 8)", x.find(7, 8), BookTrees.GONE);
        CHECK.due("copy()", x.copy(), BookTrees.BAD);
        x.poke(1, 5, 1);
        x.poke(1, 5, 1);
        CHECK.due("find(7, 0) poked", x.find(7, 0), BookTrees.BADLY);
    }

    private static void reopenWithPower() {
        BookTrees x = new BookTrees(40);
        CHECK.due("reopen() of a new one", x.reopen(), 0);
        x.put(0, 1);
        x.commit();
        x.put(0, 2);
        x.commit();
        x.put(0, 3);
        CHECK.due("reopen()", x.reopen(), 2);
        CHECK.due("told(4)", x.told(4), 0);
        CHECK.due("get(0)", x.get(0), 2);
        CHECK.due("told(0)", x.told(0), 0);
        CHECK.due("told(1)", x.told(1), 8);
        CHECK.due("told(3)", x.told(3), 512);
        CHECK.due("kept(2)", x.kept(2), 0);
        x.copy();
        x.put(1, 4);
        x.commit();
        CHECK.due("reopen()", x.reopen(), 4);
        CHECK.due("told(0)", x.told(0), 8);
        CHECK.due("told(1)", x.told(1), 16);
        CHECK.due("kept(1)", x.kept(1), 3);
        CHECK.due("kept(2)", x.kept(2), BookTrees.NONE);
        x.poke(15, 0, 1);
        CHECK.due("reopen() without version 4", x.reopen(), 3);
        CHECK.due("told(0)", x.told(0), 8);
        CHECK.due("told(1)", x.told(1), 12);
        x.poke(11, 0, 1);
        CHECK.due("reopen() without the copy", x.reopen(), 2);
        CHECK.due("told(0)", x.told(0), 0);
        CHECK.due("told(1)", x.told(1), 8);
        CHECK.due("kept(1)", x.kept(1), 1);
        CHECK.due("find(1, 0)", x.find(1, 0), 1);
        x.poke(7, 0, 1);
        x.poke(3, 0, 1);
        CHECK.due("reopen() without any root", x.reopen(), 0);
        CHECK.due("told(1)", x.told(1), 0);
        CHECK.due("kept(0)", x.kept(0), 0);
        CHECK.due("kept(1)", x.kept(1), BookTrees.NONE);
    }

    private static void wrongArguments() {
        BookTrees x = new BookTrees(16);
        for (int n : new int[] {-2, 100001, Integer.MIN_VALUE, Integer.MAX_VALUE}) {
            CHECK.argument("crash(" + n + ")", () -> x.crash(n));
        }
        x.crash(1);
        CHECK.argument("crash(-2)", () -> x.crash(-2));
        CHECK.due("isDown()", x.isDown(), false);
        x.drop(0);
        CHECK.due("commit() with 1", x.commit(), BookTrees.CUT);
    }

    private static void whileDown() {
        BookTrees x = new BookTrees(16);
        x.put(0, 1);
        x.commit();
        x.put(0, 2);
        x.crash(256);
        CHECK.due("commit()", x.commit(), BookTrees.CUT);
        CHECK.state("crash(1)", () -> x.crash(1));
        CHECK.state("crash(NONE)", () -> x.crash(BookTrees.NONE));
        CHECK.state("crash(0)", () -> x.crash(0));
        CHECK.argument("crash(-2) without power", () -> x.crash(-2));
        CHECK.due("isDown()", x.isDown(), true);
        CHECK.state("find(1, 0)", () -> x.find(1, 0));
        CHECK.state("byteAt(3, 0)", () -> x.byteAt(3, 0));
        CHECK.argument("byteAt(8, 0) without power", () -> x.byteAt(8, 0));
        CHECK.due("reopen()", x.reopen(), 2);
        CHECK.due("reopen() again", x.reopen(), 2);
    }
}
