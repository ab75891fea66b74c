/** The edges that promises 1 to 18 name, call by call. One test for each sentence. */
public final class CallEdgesTest {
    private static final Check CHECK = new Check("CallEdgesTest");

    public static void main(String[] args) {
        newObject();
        draft();
        versions();
        power();
        roll();
        CHECK.end();
    }

    private static void newObject() {
        CHECK.of("Promise 1: below 16 counts as 16", CallEdgesTest::below16);
        CHECK.of("Promise 1: above 200 as 200", CallEdgesTest::above200);
        CHECK.of("Promise 1: N slots", CallEdgesTest::between);
        CHECK.of("Promise 1: version 0, no draft", CallEdgesTest::version0NoDraft);
    }

    private static void draft() {
        CHECK.of("Promise 2: how many keys this has: a key counts once", CallEdgesTest::putAgain);
        CHECK.of("Promise 2: how many keys this has: all of them", CallEdgesTest::putAll);
        CHECK.of("Promise 3: how many keys this has: a key counts once", CallEdgesTest::dropAgain);
        CHECK.of("Promise 3: how many keys this has: all of them", CallEdgesTest::dropAll);
        CHECK.of("Promise 4: how many keys it had: none", CallEdgesTest::undoNothing);
        CHECK.of("Promise 4: The draft is empty", CallEdgesTest::undoAll);
        CHECK.of("Promise 5: A row as the draft has it", CallEdgesTest::getFromDraft);
        CHECK.of("Promise 5: else as in the newest version", CallEdgesTest::getFromNewest);
        CHECK.of("Promise 5: GONE", CallEdgesTest::getGone);
        CHECK.of("Promise 5: BADLY", CallEdgesTest::getBadly);
        CHECK.of("Promise 6: COMMIT: the newest version: with an empty draft too", CallEdgesTest::commitNothing);
        CHECK.of("Promise 6: BAD, FULL, CUT", CallEdgesTest::commitRefused);
        CHECK.of("Promise 7: COPY: the newest version: a new one each time", CallEdgesTest::copyAgain);
        CHECK.of("Promise 7: BAD, FULL, CUT", CallEdgesTest::copyRefused);
    }

    private static void versions() {
        CHECK.of("Promise 8: GONE", CallEdgesTest::findGone);
        CHECK.of("Promise 8: BADLY: the root, the TOP, a node or leaf on the way is BAD", CallEdgesTest::findBadly);
        CHECK.of("Promise 8: (looked at in this order)", CallEdgesTest::findLooksInOrder);
        CHECK.of("Promise 9: The least key from a key on", CallEdgesTest::nextFromKeyOn);
        CHECK.of("Promise 9: NONE", CallEdgesTest::nextNone);
        CHECK.of("Promise 9: NONE, whatever lies in the slots", CallEdgesTest::nothingOnFullRoll);
        CHECK.of("Promise 9: BAD if it says BADLY", CallEdgesTest::nextBad);
        CHECK.of("Promise 10: How many rows a version has: none and all", CallEdgesTest::rowsNoneAndAll);
        CHECK.of("Promise 10: by its root (entry 1 as it stands)", CallEdgesTest::rowsAsItStands);
        CHECK.of("Promise 10: BAD", CallEdgesTest::rowsBad);
        CHECK.of("Promise 11: from the newest one on (k from 0)", CallEdgesTest::keptFromNewest);
        CHECK.of("Promise 11: NONE", CallEdgesTest::keptNone);
        CHECK.of("Promise 11: k is below 0", CallEdgesTest::keptBelow0);
    }

    private static void power() {
        CHECK.of("Promise 12: with 0 at once", CallEdgesTest::crashAtOnce);
        CHECK.of("Promise 12: with NONE it will not", CallEdgesTest::crashNone);
        CHECK.of("Promise 12: n is not NONE .. 100000", CallEdgesTest::crashBounds);
        CHECK.of("Promise 12: when n more bytes were written: 100000", CallEdgesTest::crashAt100000);
        CHECK.of("Promise 12: n more bytes: what an earlier call said does not count", CallEdgesTest::crashAgain);
        CHECK.of("Promise 13: whether the power failed or not", CallEdgesTest::reopenWithPower);
        CHECK.of("Promise 13: what crash() said is forgotten", CallEdgesTest::reopenForgets);
        CHECK.of("Promise 14: Whether the power failed, and reopen() was not called since", CallEdgesTest::down);
    }

    private static void roll() {
        CHECK.of("Promise 15: A byte of a used block: its first and its last", CallEdgesTest::firstAndLastByte);
        CHECK.of("Promise 15: A byte: 0 .. 255", CallEdgesTest::byteOf255);
        CHECK.of("Promise 16: by a mask (1 .. 255)", CallEdgesTest::masks);
        CHECK.of("Promise 16: the byte then", CallEdgesTest::byteThen);
        CHECK.of("Promise 17: The k-th used block (k from 0)", CallEdgesTest::badInOrder);
        CHECK.of("Promise 17: whose sum or number is wrong", CallEdgesTest::badByNumber);
        CHECK.of("Promise 17: NONE", CallEdgesTest::badNone);
        CHECK.of("Promise 17: k is below 0", CallEdgesTest::badBelow0);
        CHECK.of("Promise 18: What = 0 START, 1 END, 2 the newest version", CallEdgesTest::toldOfRoll);
        CHECK.of("Promise 18: 3 how many bytes were written so far", CallEdgesTest::toldBytes);
        CHECK.of("Promise 18: 4 how many keys the draft has", CallEdgesTest::toldKeys);
        CHECK.of("Promise 18: Illegal argument", CallEdgesTest::toldBounds);
    }

    /** Roots that write one block each go into all slots, and not into one more. */
    private static void dueSlots(int blocks, int slots) {
        BookTrees x = new BookTrees(blocks);
        Rolls.addRoots(x, slots - 1);
        x.drop(0);
        CHECK.due("commit() into the last slot of " + blocks, x.commit(), slots);
        x.drop(0);
        CHECK.due("commit() of one more of " + blocks, x.commit(), BookTrees.FULL);
        CHECK.due("told(1) of " + blocks, x.told(1), slots);
    }

    private static void below16() {
        dueSlots(15, 16);
        dueSlots(1, 16);
        dueSlots(0, 16);
        dueSlots(-1, 16);
        dueSlots(-200, 16);
        dueSlots(Integer.MIN_VALUE, 16);
    }

    private static void above200() {
        dueSlots(201, 200);
        dueSlots(256, 200);
        dueSlots(65536 + 20, 200);
        dueSlots(Integer.MAX_VALUE, 200);
    }

    private static void between() {
        dueSlots(16, 16);
        dueSlots(17, 17);
        dueSlots(128, 128);
        dueSlots(199, 199);
        dueSlots(200, 200);
    }

    private static void version0NoDraft() {
        BookTrees x = new BookTrees(16);
        CHECK.due("told(2)", x.told(2), 0);
        CHECK.due("told(4)", x.told(4), 0);
        CHECK.due("kept(0)", x.kept(0), 0);
        CHECK.due("kept(1)", x.kept(1), BookTrees.NONE);
        CHECK.due("undo()", x.undo(), 0);
        CHECK.due("isDown()", x.isDown(), false);
    }

    private static void putAgain() {
        BookTrees x = new BookTrees(16);
        CHECK.due("put(0, 1)", x.put(0, 1), 1);
        CHECK.due("put(0, 2)", x.put(0, 2), 1);
        CHECK.due("put(511, 2)", x.put(511, 2), 2);
        x.drop(0);
        CHECK.due("put(0, 3) over a drop", x.put(0, 3), 2);
        CHECK.due("get(0)", x.get(0), 3);
        x.commit();
        CHECK.due("put(0, 3) behind a commit", x.put(0, 3), 1);
    }

    private static void putAll() {
        BookTrees x = new BookTrees(16);
        for (int key = 0; key < 512; key++) {
            CHECK.due("put(" + key + ", 1)", x.put(key, 1), key + 1);
        }
    }

    private static void dropAgain() {
        BookTrees x = new BookTrees(16);
        CHECK.due("drop(0)", x.drop(0), 1);
        CHECK.due("drop(0) again", x.drop(0), 1);
        CHECK.due("drop(511)", x.drop(511), 2);
        x.put(5, 1);
        CHECK.due("drop(5) over a put", x.drop(5), 3);
        CHECK.due("get(5)", x.get(5), BookTrees.GONE);
        x.commit();
        CHECK.due("drop(0) behind a commit", x.drop(0), 1);
    }

    private static void dropAll() {
        BookTrees x = new BookTrees(16);
        for (int key = 511; key >= 0; key--) {
            CHECK.due("drop(" + key + ")", x.drop(key), 512 - key);
        }
        BookTrees y = new BookTrees(16);
        for (int key = 0; key < 511; key++) {
            y.drop(key);
        }
        CHECK.due("commit() of 511 drops of nothing", y.commit(), 1);
    }

    private static void undoNothing() {
        BookTrees x = new BookTrees(16);
        CHECK.due("undo()", x.undo(), 0);
        x.put(0, 1);
        CHECK.due("undo() of one", x.undo(), 1);
        CHECK.due("undo() again", x.undo(), 0);
        x.put(0, 1);
        x.commit();
        CHECK.due("undo() behind a commit", x.undo(), 0);
    }

    private static void undoAll() {
        BookTrees x = new BookTrees(16);
        for (int key = 0; key < 504; key++) {
            x.put(key, 1);
        }
        CHECK.due("undo()", x.undo(), 504);
        CHECK.due("told(4)", x.told(4), 0);
        CHECK.due("get(0)", x.get(0), BookTrees.GONE);
        CHECK.due("get(503)", x.get(503), BookTrees.GONE);
        CHECK.due("commit()", x.commit(), 0);
        CHECK.due("put(503, 1)", x.put(503, 1), 1);
    }

    private static void getFromDraft() {
        BookTrees x = Rolls.oneRow(16, 3, 5);
        x.put(3, 6);
        CHECK.due("get(3) put", x.get(3), 6);
        x.drop(3);
        CHECK.due("get(3) dropped", x.get(3), BookTrees.GONE);
        x.poke(0, 0, 1);
        CHECK.due("get(3) dropped over a bad leaf", x.get(3), BookTrees.GONE);
        x.put(3, 7);
        CHECK.due("get(3) put over a bad leaf", x.get(3), 7);
        x.poke(3, 0, 1);
        CHECK.due("get(3) put over a bad root", x.get(3), 7);
    }

    private static void getFromNewest() {
        BookTrees x = Rolls.oneRow(16, 3, 5);
        x.put(3, 6);
        x.commit();
        CHECK.due("get(3)", x.get(3), 6);
        x.put(4, 1);
        CHECK.due("get(3) beside the draft's keys", x.get(3), 6);
        x.drop(3);
        x.commit();
        CHECK.due("get(3) dropped", x.get(3), BookTrees.GONE);
    }

    private static void getGone() {
        BookTrees x = Rolls.oneRow(16, 3, 5);
        CHECK.due("get(2), not in the leaf", x.get(2), BookTrees.GONE);
        CHECK.due("get(8), not in the node", x.get(8), BookTrees.GONE);
        CHECK.due("get(64), not in the TOP", x.get(64), BookTrees.GONE);
        x.drop(3);
        x.commit();
        CHECK.due("get(3), not in the ROOT", x.get(3), BookTrees.GONE);
        CHECK.due("get(3), without a ROOT", new BookTrees(16).get(3), BookTrees.GONE);
    }

    private static void getBadly() {
        int[] furthest = {7, 63, 511, 511};
        for (int block = 0; block <= 3; block++) {
            BookTrees x = Rolls.oneRow(16, 3, 5);
            x.poke(block, 44, 1);
            CHECK.due("get(3) with block " + block + " bad", x.get(3), BookTrees.BADLY);
            CHECK.due("get(0) with block " + block + " bad", x.get(0), BookTrees.BADLY);
            CHECK.due("get(" + furthest[block] + ") with block " + block + " bad", x.get(furthest[block]), BookTrees.BADLY);
            if (furthest[block] < 511) {
                CHECK.due("get() beyond with block " + block + " bad", x.get(furthest[block] + 1), BookTrees.GONE);
            }
        }
    }

    private static void commitNothing() {
        BookTrees x = new BookTrees(16);
        CHECK.due("commit() of a new one", x.commit(), 0);
        x.drop(0);
        CHECK.due("commit()", x.commit(), 1);
        CHECK.due("commit() again", x.commit(), 1);
        x.copy();
        CHECK.due("commit() behind a copy", x.commit(), 2);
        x.reopen();
        CHECK.due("commit() reopened", x.commit(), 2);
    }

    private static void commitRefused() {
        BookTrees x = Rolls.roots(16, 15);
        x.drop(0);
        x.poke(14, 0, 1);
        CHECK.due("commit() over a bad root", x.commit(), BookTrees.BAD);
        x.poke(14, 0, 1);
        x.put(0, 1);
        CHECK.due("commit() of 4 behind 15", x.commit(), BookTrees.FULL);
        x.drop(0);
        x.crash(64);
        CHECK.due("commit() with 64", x.commit(), BookTrees.CUT);
        CHECK.due("reopen()", x.reopen(), 16);
    }

    private static void copyAgain() {
        BookTrees x = Rolls.oneRow(16, 3, 5);
        for (int version = 2; version <= 20; version++) {
            CHECK.due("copy()", x.copy(), version);
            CHECK.due("told(0)", x.told(0), 4 * version - 4);
            CHECK.due("find(" + version + ", 3)", x.find(version, 3), 5);
        }
    }

    private static void copyRefused() {
        BookTrees x = Rolls.roots(16, 15);
        x.poke(14, 0, 1);
        CHECK.due("copy() of a bad root", x.copy(), BookTrees.BAD);
        x.poke(14, 0, 1);
        x.crash(63);
        CHECK.due("copy() with 63", x.copy(), BookTrees.CUT);
        CHECK.due("reopen()", x.reopen(), 15);
        x.drop(0);
        x.commit();
        CHECK.due("copy() of 1 behind 16", x.copy(), BookTrees.FULL);
    }

    private static void findGone() {
        BookTrees x = Rolls.oneRow(16, 67, 5);
        CHECK.due("find(1, 66), not in the leaf", x.find(1, 66), BookTrees.GONE);
        CHECK.due("find(1, 72), not in the node", x.find(1, 72), BookTrees.GONE);
        CHECK.due("find(1, 63), not in the TOP", x.find(1, 63), BookTrees.GONE);
        CHECK.due("find(0, 67), before it came", x.find(0, 67), BookTrees.GONE);
        x.drop(67);
        x.commit();
        CHECK.due("find(2, 67), dropped", x.find(2, 67), BookTrees.GONE);
        CHECK.due("find(1, 67)", x.find(1, 67), 5);
    }

    private static void findBadly() {
        for (int block = 0; block <= 3; block++) {
            BookTrees x = Rolls.oneRow(16, 67, 5);
            x.poke(block, 44, 1);
            CHECK.due("find(1, 67) with block " + block + " bad", x.find(1, 67), BookTrees.BADLY);
            CHECK.due("find(1, 64), not there, with block " + block + " bad", x.find(1, 64), BookTrees.BADLY);
            CHECK.due("find(1, 72) with block " + block + " bad", x.find(1, 72), block >= 1 ? BookTrees.BADLY : BookTrees.GONE);
            CHECK.due("find(1, 0) with block " + block + " bad", x.find(1, 0), block >= 2 ? BookTrees.BADLY : BookTrees.GONE);
        }
    }

    /** What lies behind a page that says the row is not there is not looked at; what lies before it is. */
    private static void findLooksInOrder() {
        BookTrees x = Rolls.threeRows(16);
        Blocks.setMended(x, 3, Blocks.BITS, 2);
        x.poke(0, 44, 1);
        CHECK.due("find(1, 0), the node says no, its leaf is bad", x.find(1, 0), BookTrees.GONE);
        Blocks.setMended(x, 5, Blocks.BITS, 1);
        x.poke(4, 44, 1);
        CHECK.due("find(1, 100), the TOP says no, its node is bad", x.find(1, 100), BookTrees.GONE);
        Blocks.setMended(x, 6, Blocks.BITS, 0);
        x.poke(5, 44, 1);
        CHECK.due("find(1, 9), the ROOT says no, its TOP is bad", x.find(1, 9), BookTrees.GONE);
        x.poke(6, 44, 1);
        CHECK.due("find(1, 9), the ROOT is bad", x.find(1, 9), BookTrees.BADLY);
    }

    private static void nextFromKeyOn() {
        BookTrees x = new BookTrees(40);
        int[] keys = {0, 7, 8, 63, 64, 448, 511};
        for (int key : keys) {
            x.put(key, 0);
        }
        x.commit();
        for (int i = 0; i < keys.length; i++) {
            CHECK.due("next(1, " + keys[i] + ")", x.next(1, keys[i]), keys[i]);
            if (i > 0) {
                CHECK.due("next(1, " + (keys[i - 1] + 1) + ")", x.next(1, keys[i - 1] + 1), keys[i]);
                CHECK.due("next(1, " + (keys[i] - 1) + ")", x.next(1, keys[i] - 1), keys[i - 1] == keys[i] - 1 ? keys[i - 1] : keys[i]);
            }
        }
    }

    /** Behind the last row there is none, and it does not begin at 0 again. */
    private static void nextNone() {
        BookTrees x = Rolls.oneRow(16, 0, 5);
        CHECK.due("next(1, 0)", x.next(1, 0), 0);
        CHECK.due("next(1, 1)", x.next(1, 1), BookTrees.NONE);
        CHECK.due("next(1, 511)", x.next(1, 511), BookTrees.NONE);
        CHECK.due("next(0, 0)", x.next(0, 0), BookTrees.NONE);
        x.drop(0);
        x.commit();
        CHECK.due("next(2, 0)", x.next(2, 0), BookTrees.NONE);
        BookTrees y = Rolls.oneRow(16, 510, 5);
        CHECK.due("next(1, 510)", y.next(1, 510), 510);
        CHECK.due("next(1, 511)", y.next(1, 511), BookTrees.NONE);
    }

    /** Pages with all bits in each of the 16 slots, the last one too: nothing of them is read for rows that are not there. */
    private static void nothingOnFullRoll() {
        for (int first = 1; first <= 16; first++) {
            BookTrees x = Rolls.copies(16, first);
            x.put(0, 5);
            for (int leaf = 1; leaf < 8; leaf++) {
                for (int k = 0; k < 8; k++) {
                    x.put(8 * leaf + k, 5);
                }
            }
            int version = first + 1;
            CHECK.due("commit() of 11", x.commit(), version);
            CHECK.due("find(.., 1), not in the leaf", x.find(version, 1), BookTrees.GONE);
            CHECK.due("find(.., 64), not in the TOP", x.find(version, 64), BookTrees.GONE);
            CHECK.due("find(.., 511), not in the TOP", x.find(version, 511), BookTrees.GONE);
            CHECK.due("next(.., 1)", x.next(version, 1), 8);
            CHECK.due("next(.., 64)", x.next(version, 64), BookTrees.NONE);
            CHECK.due("find(.., 0) without rows", x.find(first, 0), BookTrees.GONE);
            CHECK.due("next(.., 0) without rows", x.next(first, 0), BookTrees.NONE);
        }
        BookTrees y = Rolls.leaves(16, 12);
        CHECK.due("told(1)", y.told(1), 16);
        CHECK.due("find(0, 0)", y.find(0, 0), BookTrees.GONE);
        CHECK.due("next(0, 0)", y.next(0, 0), BookTrees.NONE);
    }

    private static void nextBad() {
        BookTrees x = Rolls.threeRows(16);
        x.poke(1, 44, 1);
        CHECK.due("next(1, 0), a row before the bad leaf", x.next(1, 0), 0);
        CHECK.due("next(1, 1), none before the bad leaf", x.next(1, 1), BookTrees.BAD);
        CHECK.due("next(1, 15), the last key of the bad leaf", x.next(1, 15), BookTrees.BAD);
        CHECK.due("next(1, 16), behind the bad leaf", x.next(1, 16), 100);
        x.poke(4, 44, 1);
        CHECK.due("next(1, 16), none before the bad node", x.next(1, 16), BookTrees.BAD);
        CHECK.due("next(1, 127), the last key of the bad node", x.next(1, 127), BookTrees.BAD);
        CHECK.due("next(1, 128), behind the bad node", x.next(1, 128), BookTrees.NONE);
        x.poke(5, 44, 1);
        CHECK.due("next(1, 511), the TOP bad", x.next(1, 511), BookTrees.BAD);
        CHECK.due("next(0, 0)", x.next(0, 0), BookTrees.NONE);
    }

    private static void rowsNoneAndAll() {
        BookTrees x = new BookTrees(200);
        CHECK.due("rows(0)", x.rows(0), 0);
        for (int key = 0; key < 256; key++) {
            x.put(key, key);
        }
        x.commit();
        CHECK.due("rows(1)", x.rows(1), 256);
        for (int leaf = 32; leaf < 64; leaf++) {
            for (int k = 0; k < 7; k++) {
                x.put(8 * leaf + k, k);
            }
        }
        x.commit();
        CHECK.due("rows(2)", x.rows(2), 480);
        for (int leaf = 32; leaf < 56; leaf++) {
            x.put(8 * leaf + 7, 7);
        }
        CHECK.due("commit()", x.commit(), 3);
        CHECK.due("rows(3)", x.rows(3), 504);
    }

    private static void rowsAsItStands() {
        for (int rows : new int[] {0, 1, 511, 512, 513, -1, -2, 1000000, Integer.MIN_VALUE, Integer.MAX_VALUE}) {
            BookTrees x = Rolls.threeRows(16);
            Blocks.setIntMended(x, 6, Blocks.entry(1), rows);
            CHECK.due("rows(1)", x.rows(1), rows);
            Blocks.setMended(x, 6, Blocks.BITS, 0);
            CHECK.due("rows(1) without bits", x.rows(1), rows);
        }
    }

    private static void rowsBad() {
        BookTrees x = Rolls.threeRows(16);
        for (int block = 0; block <= 5; block++) {
            x.poke(block, 0, 128);
        }
        CHECK.due("rows(1) over bad pages", x.rows(1), 3);
        x.poke(6, 63, 1);
        CHECK.due("rows(1) by a bad root", x.rows(1), BookTrees.BAD);
        CHECK.due("rows(0)", x.rows(0), 0);
    }

    private static void keptFromNewest() {
        BookTrees x = Rolls.roots(200, 200);
        CHECK.due("kept(0)", x.kept(0), 200);
        CHECK.due("kept(1)", x.kept(1), 199);
        CHECK.due("kept(199)", x.kept(199), 1);
        CHECK.due("kept(200)", x.kept(200), 0);
        CHECK.due("kept(201)", x.kept(201), BookTrees.NONE);
        x.reopen();
        CHECK.due("kept(0) reopened", x.kept(0), 200);
        CHECK.due("kept(199) reopened", x.kept(199), 1);
        CHECK.due("kept(200) reopened", x.kept(200), 0);
        CHECK.due("kept(201) reopened", x.kept(201), BookTrees.NONE);
    }

    private static void keptNone() {
        BookTrees x = new BookTrees(16);
        CHECK.due("kept(0) of a new one", x.kept(0), 0);
        CHECK.due("kept(1) of a new one", x.kept(1), BookTrees.NONE);
        Rolls.addRoots(x, 2);
        CHECK.due("kept(2)", x.kept(2), 0);
        CHECK.due("kept(3)", x.kept(3), BookTrees.NONE);
        x.copy();
        CHECK.due("kept(0) behind a copy", x.kept(0), 3);
        CHECK.due("kept(1) behind a copy", x.kept(1), BookTrees.NONE);
        CHECK.due("kept(max)", x.kept(Integer.MAX_VALUE), BookTrees.NONE);
    }

    private static void keptBelow0() {
        BookTrees x = Rolls.roots(16, 2);
        CHECK.argument("kept(-1)", () -> x.kept(-1));
        CHECK.argument("kept(min)", () -> x.kept(Integer.MIN_VALUE));
        CHECK.due("kept(0)", x.kept(0), 2);
    }

    private static void crashAtOnce() {
        BookTrees x = Rolls.roots(16, 1);
        x.crash(0);
        CHECK.due("isDown()", x.isDown(), true);
        CHECK.state("told(0)", () -> x.told(0));
        CHECK.due("reopen()", x.reopen(), 1);
        CHECK.due("told(3)", x.told(3), 64);
        x.crash(1);
        CHECK.due("isDown() behind crash(1)", x.isDown(), false);
        x.crash(0);
        CHECK.due("isDown() behind crash(0)", x.isDown(), true);
    }

    private static void crashNone() {
        BookTrees x = Rolls.roots(16, 1);
        x.crash(1);
        x.crash(BookTrees.NONE);
        x.drop(0);
        CHECK.due("commit()", x.commit(), 2);
        x.crash(BookTrees.NONE);
        CHECK.due("isDown()", x.isDown(), false);
        x.put(0, 1);
        CHECK.due("commit()", x.commit(), 3);
    }

    private static void crashBounds() {
        BookTrees x = new BookTrees(16);
        for (int n : new int[] {-2, -3, 100001, 200000, Integer.MIN_VALUE, Integer.MAX_VALUE}) {
            CHECK.argument("crash(" + n + ")", () -> x.crash(n));
        }
        CHECK.due("isDown()", x.isDown(), false);
        for (int n : new int[] {-1, 1, 99999, 100000}) {
            CHECK.due("crash(" + n + ") throws", Check.thrown(() -> x.crash(n)), "nothing");
            CHECK.due("isDown() behind crash(" + n + ")", x.isDown(), false);
        }
        CHECK.due("crash(0) throws", Check.thrown(() -> x.crash(0)), "nothing");
    }

    /** Copies of 74 blocks each: 21 of them are 99456 bytes, the 22nd has 544. */
    private static void crashAt100000() {
        BookTrees x = Rolls.leaves(200, 64);
        x.crash(100000);
        for (int i = 1; i <= 21; i++) {
            CHECK.due("copy() " + i, x.copy(), 1 + i);
        }
        CHECK.due("copy() 22", x.copy(), BookTrees.CUT);
        CHECK.due("isDown()", x.isDown(), true);
        CHECK.due("reopen()", x.reopen(), 22);
        CHECK.due("told(3)", x.told(3), 74 * 64 + 100000);
        CHECK.due("find(22, 504)", x.find(22, 504), 504);
    }

    private static void crashAgain() {
        BookTrees x = new BookTrees(40);
        x.crash(10);
        x.crash(65);
        x.drop(0);
        CHECK.due("commit() of 64 with 65", x.commit(), 1);
        x.crash(65);
        x.drop(0);
        CHECK.due("commit() of 64 with 65 once more", x.commit(), 2);
        x.crash(64);
        x.drop(0);
        CHECK.due("commit() of 64 with 64", x.commit(), BookTrees.CUT);
    }

    private static void reopenWithPower() {
        BookTrees x = Rolls.oneRow(16, 0, 5);
        CHECK.due("reopen() with power", x.reopen(), 1);
        CHECK.due("reopen() again", x.reopen(), 1);
        x.crash(0);
        CHECK.due("reopen() without power", x.reopen(), 1);
        CHECK.due("isDown()", x.isDown(), false);
        CHECK.due("get(0)", x.get(0), 5);
        CHECK.due("told(1)", x.told(1), 4);
        CHECK.due("told(3)", x.told(3), 256);
    }

    private static void reopenForgets() {
        BookTrees x = Rolls.roots(16, 1);
        x.crash(1);
        CHECK.due("reopen()", x.reopen(), 1);
        x.drop(0);
        CHECK.due("commit()", x.commit(), 2);
        x.crash(65);
        x.drop(0);
        x.commit();
        CHECK.due("reopen() with a byte left", x.reopen(), 3);
        x.drop(0);
        CHECK.due("commit()", x.commit(), 4);
        x.crash(10);
        x.drop(0);
        x.commit();
        CHECK.due("reopen() behind a cut", x.reopen(), 4);
        x.put(0, 1);
        CHECK.due("commit()", x.commit(), 5);
    }

    private static void down() {
        BookTrees x = new BookTrees(16);
        CHECK.due("isDown() of a new one", x.isDown(), false);
        x.crash(1);
        CHECK.due("isDown() behind crash(1)", x.isDown(), false);
        x.drop(0);
        CHECK.due("isDown() behind drop(0)", x.isDown(), false);
        x.commit();
        CHECK.due("isDown() behind a cut", x.isDown(), true);
        CHECK.due("isDown() again", x.isDown(), true);
        x.reopen();
        CHECK.due("isDown() reopened", x.isDown(), false);
        x.crash(0);
        CHECK.due("isDown() behind crash(0)", x.isDown(), true);
        x.reopen();
        CHECK.due("isDown() reopened again", x.isDown(), false);
    }

    private static void firstAndLastByte() {
        BookTrees x = Rolls.oneRow(16, 5, 78);
        CHECK.due("byteAt(0, 0)", x.byteAt(0, 0), Blocks.LEAF);
        CHECK.due("byteAt(0, 63)", x.byteAt(0, 63), 121);
        CHECK.due("byteAt(3, 0)", x.byteAt(3, 0), Blocks.ROOT);
        CHECK.argument("byteAt(0, -1)", () -> x.byteAt(0, -1));
        CHECK.argument("byteAt(0, 64)", () -> x.byteAt(0, 64));
        CHECK.argument("byteAt(1, -1), the last byte of block 0", () -> x.byteAt(1, -1));
        CHECK.argument("byteAt(-1, 64), the first byte of block 0", () -> x.byteAt(-1, 64));
    }

    private static void byteOf255() {
        BookTrees x = Rolls.oneRow(16, 0, 0xFF807F00);
        CHECK.due("byteAt(0, 8)", x.byteAt(0, 8), 255);
        CHECK.due("byteAt(0, 9)", x.byteAt(0, 9), 128);
        CHECK.due("byteAt(0, 10)", x.byteAt(0, 10), 127);
        CHECK.due("byteAt(0, 11)", x.byteAt(0, 11), 0);
    }

    private static void masks() {
        BookTrees x = Rolls.oneRow(16, 0, 0);
        CHECK.due("poke(0, 8, 1)", x.poke(0, 8, 1), 1);
        CHECK.due("poke(0, 9, 255)", x.poke(0, 9, 255), 255);
        CHECK.argument("poke(0, 10, 0)", () -> x.poke(0, 10, 0));
        CHECK.argument("poke(0, 10, 256)", () -> x.poke(0, 10, 256));
        CHECK.argument("poke(0, 10, 257)", () -> x.poke(0, 10, 257));
        CHECK.argument("poke(0, 10, -1)", () -> x.poke(0, 10, -1));
        CHECK.argument("poke(0, 10, min)", () -> x.poke(0, 10, Integer.MIN_VALUE));
        CHECK.due("byteAt(0, 10)", x.byteAt(0, 10), 0);
        BookTrees y = Rolls.oneRow(16, 0, 0);
        int byteThen = 0;
        for (int mask = 1; mask <= 255; mask++) {
            byteThen ^= mask;
            CHECK.due("poke(0, 11, " + mask + ")", y.poke(0, 11, mask), byteThen);
        }
    }

    private static void byteThen() {
        BookTrees x = Rolls.oneRow(16, 0, 0x0F000000);
        CHECK.due("poke(0, 8, 255)", x.poke(0, 8, 255), 0xF0);
        CHECK.due("byteAt(0, 8)", x.byteAt(0, 8), 0xF0);
        CHECK.due("poke(0, 8, 240)", x.poke(0, 8, 0xF0), 0);
        CHECK.due("poke(0, 8, 15)", x.poke(0, 8, 0x0F), 0x0F);
        CHECK.due("get(0)", x.get(0), 0x0F000000);
        CHECK.due("poke(0, 0, 1), the first byte", x.poke(0, 0, 1), 0);
        int last = x.byteAt(0, 63);
        CHECK.due("poke(0, 63, 128), the last byte", x.poke(0, 63, 128), last ^ 128);
        CHECK.due("byteAt(1, 0), of the next block", x.byteAt(1, 0), Blocks.NODE);
    }

    private static void badInOrder() {
        BookTrees x = Rolls.copies(16, 15);
        Rolls.addRoots(x, 15);
        CHECK.due("told(0)", x.told(0), 14);
        CHECK.due("told(1)", x.told(1), 30);
        // Blocks 14, 15 lie in slots 14, 15, blocks 16 and 29 in slots 0 and 13.
        for (int block : new int[] {29, 14, 16, 15}) {
            x.poke(block, 50, 1);
        }
        int[] want = {14, 15, 16, 29, BookTrees.NONE};
        for (int k = 0; k < want.length; k++) {
            CHECK.due("badAt(" + k + ")", x.badAt(k), want[k]);
        }
    }

    private static void badByNumber() {
        BookTrees x = Rolls.oneRow(16, 0, 5);
        Blocks.setIntMended(x, 2, Blocks.NUMBER, 18);
        CHECK.due("badAt(0), another number and the right sum", x.badAt(0), 2);
        x.poke(1, 63, 1);
        CHECK.due("badAt(0), another sum", x.badAt(0), 1);
        CHECK.due("badAt(1)", x.badAt(1), 2);
        Blocks.setMended(x, 0, 0, 9);
        CHECK.due("badAt(0), whatever the kind", x.badAt(0), 1);
        Blocks.setIntMended(x, 3, Blocks.VERSION, 0);
        CHECK.due("badAt(2), whatever the version", x.badAt(2), BookTrees.NONE);
    }

    private static void badNone() {
        BookTrees x = new BookTrees(16);
        CHECK.due("badAt(0) of a new one", x.badAt(0), BookTrees.NONE);
        Rolls.addRoots(x, 3);
        CHECK.due("badAt(0)", x.badAt(0), BookTrees.NONE);
        x.poke(0, 0, 1);
        CHECK.due("badAt(1)", x.badAt(1), BookTrees.NONE);
        CHECK.due("badAt(max)", x.badAt(Integer.MAX_VALUE), BookTrees.NONE);
        x.copy();
        CHECK.due("badAt(0), the bad one not used any more", x.badAt(0), BookTrees.NONE);
    }

    private static void badBelow0() {
        BookTrees x = Rolls.roots(16, 2);
        CHECK.argument("badAt(-1)", () -> x.badAt(-1));
        CHECK.argument("badAt(min)", () -> x.badAt(Integer.MIN_VALUE));
        CHECK.due("badAt(0)", x.badAt(0), BookTrees.NONE);
    }

    private static void toldOfRoll() {
        BookTrees x = Rolls.copies(16, 4);
        x.put(0, 1);
        x.commit();
        CHECK.due("told(0)", x.told(0), 3);
        CHECK.due("told(1)", x.told(1), 8);
        CHECK.due("told(2)", x.told(2), 5);
    }

    private static void toldBytes() {
        BookTrees x = new BookTrees(16);
        CHECK.due("told(3) of a new one", x.told(3), 0);
        x.put(0, 1);
        CHECK.due("told(3) behind put()", x.told(3), 0);
        x.crash(1);
        x.commit();
        x.reopen();
        CHECK.due("told(3) with one byte", x.told(3), 1);
        x.put(0, 1);
        x.commit();
        CHECK.due("told(3) behind commit()", x.told(3), 257);
        x.copy();
        CHECK.due("told(3) behind copy()", x.told(3), 513);
        x.poke(4, 0, 1);
        CHECK.due("told(3) behind poke()", x.told(3), 513);
        x.reopen();
        CHECK.due("told(3) reopened", x.told(3), 513);
    }

    private static void toldKeys() {
        BookTrees x = new BookTrees(16);
        CHECK.due("told(4) of a new one", x.told(4), 0);
        x.put(0, 1);
        x.put(0, 2);
        x.drop(511);
        x.drop(0);
        CHECK.due("told(4)", x.told(4), 2);
        x.commit();
        CHECK.due("told(4) behind commit()", x.told(4), 0);
        x.put(0, 1);
        x.copy();
        CHECK.due("told(4) behind copy()", x.told(4), 1);
        x.undo();
        CHECK.due("told(4) behind undo()", x.told(4), 0);
        x.put(0, 1);
        x.reopen();
        CHECK.due("told(4) reopened", x.told(4), 0);
    }

    private static void toldBounds() {
        BookTrees x = Rolls.roots(16, 2);
        for (int what : new int[] {-1, 5, 6, Integer.MIN_VALUE, Integer.MAX_VALUE}) {
            CHECK.argument("told(" + what + ")", () -> x.told(what));
        }
        CHECK.due("told(0)", x.told(0), 0);
        CHECK.due("told(4)", x.told(4), 0);
    }
}
