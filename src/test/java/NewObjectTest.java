/** Promise 1: how many slots an object has, and that nothing is in them. */
public final class NewObjectTest {
    private static final Check CHECK = new Check("NewObjectTest");

    public static void main(String[] args) {
        slots(16, 16);
        slots(17, 17);
        slots(100, 100);
        slots(199, 199);
        slots(200, 200);
        slots(15, 16);
        slots(1, 16);
        slots(0, 16);
        slots(-1, 16);
        slots(Integer.MIN_VALUE, 16);
        slots(201, 200);
        slots(Integer.MAX_VALUE, 200);
        empty();
        apart();
        CHECK.end();
    }

    /** A commit that only drops writes just a ROOT, so there are as many of them as slots. */
    private static void slots(int blocks, int want) {
        BookTrees x = new BookTrees(blocks);
        String name = "new BookTrees(" + blocks + ")";
        for (int version = 1; version <= want; version++) {
            x.drop(0);
            CHECK.due(name + " commit() " + version, x.commit(), version);
        }
        x.drop(0);
        CHECK.due(name + " commit() of one more", x.commit(), BookTrees.FULL);
        CHECK.due(name + " told(1)", x.told(1), want);
    }

    private static void empty() {
        BookTrees x = new BookTrees(20);
        for (int what = 0; what <= 4; what++) {
            CHECK.due("told(" + what + ") of a new one", x.told(what), 0);
        }
        CHECK.due("isDown()", x.isDown(), false);
        CHECK.due("kept(0)", x.kept(0), 0);
        CHECK.due("kept(1)", x.kept(1), BookTrees.NONE);
        CHECK.due("rows(0)", x.rows(0), 0);
        CHECK.due("find(0, 0)", x.find(0, 0), BookTrees.GONE);
        CHECK.due("next(0, 0)", x.next(0, 0), BookTrees.NONE);
        CHECK.due("get(511)", x.get(511), BookTrees.GONE);
        CHECK.due("badAt(0)", x.badAt(0), BookTrees.NONE);
        CHECK.argument("byteAt(0, 0)", () -> x.byteAt(0, 0));
        CHECK.due("undo()", x.undo(), 0);
        CHECK.due("commit()", x.commit(), 0);
        CHECK.due("reopen()", x.reopen(), 0);
    }

    private static void apart() {
        BookTrees x = new BookTrees(20);
        BookTrees y = new BookTrees(20);
        x.put(1, 1);
        CHECK.due("told(4) of the other", y.told(4), 0);
        x.commit();
        x.crash(0);
        CHECK.due("told(1) of the other", y.told(1), 0);
        CHECK.due("isDown() of the other", y.isDown(), false);
    }
}
