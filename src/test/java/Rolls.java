/** Objects that many tests begin with. */
final class Rolls {
    private Rolls() {
    }

    /** Versions 1 .. count, each just a ROOT, in blocks 0 .. count - 1. */
    static BookTrees roots(int slots, int count) {
        BookTrees x = new BookTrees(slots);
        addRoots(x, count);
        return x;
    }

    /** A commit that drops what is not there writes a ROOT alone, as long as there are no rows. */
    static void addRoots(BookTrees x, int count) {
        for (int i = 0; i < count; i++) {
            x.drop(0);
            x.commit();
        }
    }

    /** Versions 1 .. count, each a copy without rows: just block count - 1 is used. */
    static BookTrees copies(int slots, int count) {
        BookTrees x = new BookTrees(slots);
        for (int i = 0; i < count; i++) {
            x.copy();
        }
        return x;
    }

    /** Version 1 with a row: a leaf, a node, the TOP, the ROOT in 0 .. 3. */
    static BookTrees oneRow(int slots, int key, int value) {
        BookTrees x = new BookTrees(slots);
        x.put(key, value);
        x.commit();
        return x;
    }

    /** Version 1 with rows 0, 9, 100: leaves 0, 1, 12 in 0 .. 2, nodes 0, 1 in 3, 4, the TOP in 5, the ROOT in 6. */
    static BookTrees threeRows(int slots) {
        BookTrees x = new BookTrees(slots);
        x.put(0, 10);
        x.put(9, 11);
        x.put(100, 12);
        x.commit();
        return x;
    }

    /** Version 1 with a row in each of the first leaves, the row's value being its key. */
    static BookTrees leaves(int slots, int count) {
        BookTrees x = new BookTrees(slots);
        putLeaves(x, count);
        x.commit();
        return x;
    }

    static void putLeaves(BookTrees x, int count) {
        for (int leaf = 0; leaf < count; leaf++) {
            x.put(8 * leaf, 8 * leaf);
        }
    }

    /** What the calls that change nothing answer, as a text: some sixty calls. */
    static String state(BookTrees x) {
        StringBuilder text = new StringBuilder();
        for (int what = 0; what <= 4; what++) {
            text.append(" told ").append(x.told(what));
        }
        for (int k = 0; k < 10; k++) {
            text.append(" kept ").append(x.kept(k));
        }
        for (int key = 0; key < 512; key += 17) {
            text.append(" get ").append(x.get(key));
        }
        for (int k = 0; k < 4; k++) {
            text.append(" badAt ").append(x.badAt(k));
        }
        text.append(" next ").append(x.next(x.told(2), 0)).append(" rows ").append(x.rows(x.told(2)));
        for (int block = x.told(0); block < Math.min(x.told(1), x.told(0) + 10); block++) {
            text.append(" byteAt ").append(x.byteAt(block, 0)).append(' ').append(x.byteAt(block, 63));
        }
        return text.append(" isDown ").append(x.isDown()).toString();
    }
}
