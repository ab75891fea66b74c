/** Promises 2 to 5: put, drop, undo, get. */
public final class DraftTest {
    private static final Check CHECK = new Check("DraftTest");
    private static final int[] WRONG_KEYS = {-1, 512, Integer.MIN_VALUE, Integer.MAX_VALUE};
    private static final int[] VALUES = {0, 1, -1, 255, 256, 0x01020304, Integer.MIN_VALUE, Integer.MAX_VALUE};

    public static void main(String[] args) {
        puts();
        drops();
        undoes();
        gets();
        getsPastBadBlocks();
        wrongKeys();
        withoutPower();
        CHECK.end();
    }

    private static void puts() {
        BookTrees x = new BookTrees(30);
        CHECK.due("put(0, 5)", x.put(0, 5), 1);
        CHECK.due("put(511, 6)", x.put(511, 6), 2);
        CHECK.due("put(0, 7)", x.put(0, 7), 2);
        CHECK.due("get(0)", x.get(0), 7);
        CHECK.due("get(511)", x.get(511), 6);
        CHECK.due("told(4)", x.told(4), 2);
        CHECK.due("told(1)", x.told(1), 0);
        CHECK.due("drop(0)", x.drop(0), 2);
        CHECK.due("put(0, 8)", x.put(0, 8), 2);
        CHECK.due("get(0) put again", x.get(0), 8);
        BookTrees y = new BookTrees(30);
        for (int key = 0; key < 250; key++) {
            CHECK.due("put(" + 2 * key + ")", y.put(2 * key, key), key + 1);
        }
        for (int key = 0; key < 250; key++) {
            CHECK.due("get(" + 2 * key + ")", y.get(2 * key), key);
        }
    }

    private static void drops() {
        BookTrees x = new BookTrees(30);
        CHECK.due("drop(9) of none", x.drop(9), 1);
        CHECK.due("drop(9) again", x.drop(9), 1);
        CHECK.due("drop(511)", x.drop(511), 2);
        CHECK.due("drop(0)", x.drop(0), 3);
        CHECK.due("get(9)", x.get(9), BookTrees.GONE);
        CHECK.due("put(9, 1)", x.put(9, 1), 3);
        CHECK.due("commit()", x.commit(), 1);
        CHECK.due("drop(9) of a row", x.drop(9), 1);
        CHECK.due("get(9) dropped", x.get(9), BookTrees.GONE);
        CHECK.due("find(1, 9) in the version", x.find(1, 9), 1);
        CHECK.due("commit()", x.commit(), 2);
        CHECK.due("find(2, 9)", x.find(2, 9), BookTrees.GONE);
    }

    private static void undoes() {
        BookTrees x = new BookTrees(30);
        CHECK.due("undo() of nothing", x.undo(), 0);
        x.put(3, 1);
        x.commit();
        CHECK.due("undo() behind a commit", x.undo(), 0);
        x.put(3, 2);
        x.drop(4);
        x.put(400, 2);
        CHECK.due("undo()", x.undo(), 3);
        CHECK.due("told(4)", x.told(4), 0);
        CHECK.due("get(3) undone", x.get(3), 1);
        CHECK.due("get(400) undone", x.get(400), BookTrees.GONE);
        CHECK.due("undo() again", x.undo(), 0);
        CHECK.due("put(5, 5)", x.put(5, 5), 1);
        x.commit();
        CHECK.due("find(2, 3)", x.find(2, 3), 1);
        CHECK.due("find(2, 400)", x.find(2, 400), BookTrees.GONE);
    }

    private static void gets() {
        BookTrees x = new BookTrees(30);
        for (int k = 0; k < VALUES.length; k++) {
            x.put(10 * k, VALUES[k]);
            CHECK.due("get(" + 10 * k + ") of the draft", x.get(10 * k), VALUES[k]);
        }
        CHECK.due("commit()", x.commit(), 1);
        for (int k = 0; k < VALUES.length; k++) {
            CHECK.due("get(" + 10 * k + ") of the version", x.get(10 * k), VALUES[k]);
            CHECK.due("get(" + (10 * k + 1) + ")", x.get(10 * k + 1), BookTrees.GONE);
        }
        x.put(10, 77);
        x.commit();
        CHECK.due("get(10) of the newest", x.get(10), 77);
        x.put(10, 78);
        CHECK.due("get(10) of the draft over it", x.get(10), 78);
    }

    private static void getsPastBadBlocks() {
        BookTrees x = new BookTrees(30);
        x.put(0, 1);
        x.put(9, 2);
        x.commit();
        x.poke(0, 20, 4);
        CHECK.due("get(0) of a bad leaf", x.get(0), BookTrees.BADLY);
        CHECK.due("get(7) of a bad leaf", x.get(7), BookTrees.BADLY);
        CHECK.due("get(9) beside it", x.get(9), 2);
        x.put(0, 3);
        x.drop(7);
        CHECK.due("get(0) of the draft over it", x.get(0), 3);
        CHECK.due("get(7) dropped over it", x.get(7), BookTrees.GONE);
        CHECK.due("get(1)", x.get(1), BookTrees.BADLY);
    }

    private static void wrongKeys() {
        BookTrees x = new BookTrees(30);
        for (int key : WRONG_KEYS) {
            CHECK.argument("put(" + key + ", 1)", () -> x.put(key, 1));
            CHECK.argument("drop(" + key + ")", () -> x.drop(key));
            CHECK.argument("get(" + key + ")", () -> x.get(key));
        }
        CHECK.due("told(4)", x.told(4), 0);
    }

    private static void withoutPower() {
        BookTrees x = new BookTrees(30);
        x.put(2, 1);
        x.crash(0);
        CHECK.state("put(1, 1)", () -> x.put(1, 1));
        CHECK.state("drop(1)", () -> x.drop(1));
        CHECK.state("undo()", x::undo);
        CHECK.state("get(1)", () -> x.get(1));
        CHECK.argument("put(512, 1) without power", () -> x.put(512, 1));
        CHECK.argument("drop(-1) without power", () -> x.drop(-1));
        CHECK.argument("get(512) without power", () -> x.get(512));
        x.reopen();
        CHECK.due("told(4)", x.told(4), 0);
        CHECK.due("get(2)", x.get(2), BookTrees.GONE);
    }
}
