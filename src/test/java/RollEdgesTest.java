/** The edges that the document's terms name: rows, the roll, its blocks and their sums. One test for each sentence. */
public final class RollEdgesTest {
    private static final Check CHECK = new Check("RollEdgesTest");

    public static void main(String[] args) {
        CHECK.of("An object is used for at most 512 calls", RollEdgesTest::calls512);
        CHECK.of("ROWS have KEYS 0 .. 511", RollEdgesTest::leastAndGreatestKey);
        CHECK.of("and values (32 bits)", RollEdgesTest::values);
        CHECK.of("values: 0 is one like others", RollEdgesTest::valueZero);
        CHECK.of("THE ROLL has N slots of 64 bytes, all 0 at first", RollEdgesTest::slotsAreZero);
        CHECK.of("BLOCK n, n = 0, 1, .., lies in slot n modulo N", RollEdgesTest::slotOfBlocks);
        CHECK.of("slot n modulo N: pages over the end of the roll", RollEdgesTest::pagesOverTheEnd);
        CHECK.of("Blocks from START up to END, without that, are USED", RollEdgesTest::startToEnd);
        CHECK.of("(both 0 at first)", RollEdgesTest::nothingUsed);
        CHECK.of("at most N are", RollEdgesTest::atMostN);
        CHECK.of("at most N are: all N are of use", RollEdgesTest::allSlotsUsed);
        CHECK.of("A BLOCK has 56 bytes of contents and its SUM", RollEdgesTest::everyByteCounts);
        CHECK.of("s is 0 at first", RollEdgesTest::sumOfNothing);
        CHECK.of("wrapping in 64 bits, rotl turning it to the left", RollEdgesTest::sumWraps);
        CHECK.of("All numbers lie with their highest byte first", RollEdgesTest::highestByteFirst);
        CHECK.of("2 and 3 are 0", RollEdgesTest::bytesThatAreZero);
        CHECK.of("40 .. 43 the block's number, then 0", RollEdgesTest::numberThenZero);
        CHECK.end();
    }

    private static void calls512() {
        BookTrees x = new BookTrees(16);
        for (int call = 1; call < 512; call++) {
            x.put(3, call);
        }
        CHECK.due("get(3) as call 512", x.get(3), 511);
        BookTrees y = new BookTrees(200);
        for (int call = 2; call <= 400; call += 2) {
            y.drop(0);
            CHECK.due("commit() as call " + call, y.commit(), call / 2);
        }
        for (int call = 401; call < 512; call++) {
            y.drop(0);
        }
        CHECK.due("commit() as call 512", y.commit(), BookTrees.FULL);
    }

    private static void leastAndGreatestKey() {
        BookTrees x = new BookTrees(30);
        x.put(0, 5);
        x.put(511, 6);
        CHECK.due("commit()", x.commit(), 1);
        CHECK.due("find(1, 0)", x.find(1, 0), 5);
        CHECK.due("find(1, 1)", x.find(1, 1), BookTrees.GONE);
        CHECK.due("find(1, 510)", x.find(1, 510), BookTrees.GONE);
        CHECK.due("find(1, 511)", x.find(1, 511), 6);
        CHECK.due("next(1, 0)", x.next(1, 0), 0);
        CHECK.due("next(1, 1)", x.next(1, 1), 511);
        x.drop(0);
        x.drop(511);
        CHECK.due("commit()", x.commit(), 2);
        CHECK.due("get(0)", x.get(0), BookTrees.GONE);
        CHECK.due("get(511)", x.get(511), BookTrees.GONE);
    }

    private static void values() {
        int[] values = {Integer.MIN_VALUE, Integer.MIN_VALUE + 1, -65536, -256, -128, -2, -1, 1, 127, 128, 255, 256, 65535, 65536,
            0x01020304, Integer.MAX_VALUE - 1, Integer.MAX_VALUE};
        for (int value : values) {
            BookTrees x = new BookTrees(16);
            x.put(7, value);
            CHECK.due("get(7) of the draft", x.get(7), value);
            x.commit();
            CHECK.due("get(7) of the version", x.get(7), value);
            CHECK.due("find(1, 7)", x.find(1, 7), value);
            CHECK.due("next(1, 0) to " + value, x.next(1, 0), 7);
            x.reopen();
            CHECK.due("find(1, 7) reopened", x.find(1, 7), value);
            x.copy();
            CHECK.due("find(2, 7) copied", x.find(2, 7), value);
        }
    }

    private static void valueZero() {
        BookTrees x = new BookTrees(16);
        x.put(3, 0);
        CHECK.due("get(3) of the draft", x.get(3), 0);
        x.commit();
        CHECK.due("get(3)", x.get(3), 0);
        CHECK.due("next(1, 0)", x.next(1, 0), 3);
        CHECK.due("rows(1)", x.rows(1), 1);
        CHECK.due("told(1)", x.told(1), 4);
    }

    /** The ROOT in slot 0 is made block 16, from block 1 on, so that slots that nothing was written in are used. */
    private static void slotsAreZero() {
        for (int block = 1; block <= 15; block += 7) {
            BookTrees x = Rolls.roots(16, 1);
            Blocks.turn(x, 0, Blocks.image(Blocks.ROOT, 0, 1, 0), Blocks.image(Blocks.ROOT, 0, 1, 16, 0, 0, 1));
            CHECK.due("reopen()", x.reopen(), 1);
            CHECK.due("told(0)", x.told(0), 1);
            CHECK.due("told(1)", x.told(1), 17);
            Blocks.dueBlock(CHECK, x, new byte[64], block);
        }
    }

    /** A ROOT is taken with just those numbers that lie in its slot. */
    private static void slotOfBlocks() {
        for (int slots : new int[] {16, 17, 199, 200}) {
            BookTrees x = Rolls.copies(slots, slots + 1);
            CHECK.due("told(0) of " + slots, x.told(0), slots);
            Blocks.dueBlock(CHECK, x, Blocks.image(Blocks.ROOT, 0, slots + 1, slots, 0, 0, slots), slots);
            CHECK.due("reopen() of " + slots, x.reopen(), slots + 1);
            renumbered(slots, 0, true);
            renumbered(slots, 1, false);
            renumbered(slots, slots - 1, false);
            renumbered(slots, 2 * slots, true);
            renumbered(slots, 2 * slots + 1, false);
        }
    }

    /** The ROOT of block N says to be another block, and to be alone. */
    private static void renumbered(int slots, int number, boolean inSlot0) {
        BookTrees x = Rolls.copies(slots, slots + 1);
        Blocks.turn(x, slots, Blocks.image(Blocks.ROOT, 0, slots + 1, slots, 0, 0, slots),
                Blocks.image(Blocks.ROOT, 0, 999, number, 0, 0, number));
        CHECK.due("reopen() with " + number + " in slot 0 of " + slots, x.reopen(), inSlot0 ? 999 : slots);
        CHECK.due("told(1)", x.told(1), inSlot0 ? number + 1 : slots);
    }

    /** A leaf, a node, the TOP, the ROOT from each place on round the end of the roll. */
    private static void pagesOverTheEnd() {
        for (int first = 12; first <= 17; first++) {
            BookTrees x = Rolls.copies(16, first);
            x.put(511, -first);
            CHECK.due("commit() from " + first, x.commit(), first + 1);
            Blocks.dueBlock(CHECK, x, Blocks.image(Blocks.LEAF, 128, first + 1, first, 0, 0, 0, 0, 0, 0, 0, -first), first);
            Blocks.dueBlock(CHECK, x, Blocks.image(Blocks.NODE, 128, first + 1, first + 1, 0, 0, 0, 0, 0, 0, 0, first), first + 1);
            Blocks.dueBlock(CHECK, x, Blocks.image(Blocks.TOP, 128, first + 1, first + 2, 0, 0, 0, 0, 0, 0, 0, first + 1), first + 2);
            Blocks.dueBlock(CHECK, x, Blocks.image(Blocks.ROOT, 1, first + 1, first + 3, first + 2, 1, first - 1), first + 3);
            CHECK.due("find()", x.find(first + 1, 511), -first);
            CHECK.due("reopen()", x.reopen(), first + 1);
            CHECK.due("find() reopened", x.find(first + 1, 511), -first);
            CHECK.due("told(0)", x.told(0), first - 1);
            CHECK.due("told(1)", x.told(1), first + 4);
            CHECK.due("kept(1)", x.kept(1), first);
            CHECK.due("badAt(0)", x.badAt(0), BookTrees.NONE);
        }
    }

    private static void startToEnd() {
        BookTrees x = Rolls.copies(16, 5);
        Rolls.addRoots(x, 3);
        CHECK.due("told(0)", x.told(0), 4);
        CHECK.due("told(1)", x.told(1), 8);
        CHECK.argument("byteAt(3, 0)", () -> x.byteAt(3, 0));
        CHECK.due("byteAt(4, 43)", x.byteAt(4, 43), 4);
        CHECK.due("byteAt(7, 43)", x.byteAt(7, 43), 7);
        CHECK.argument("byteAt(8, 0)", () -> x.byteAt(8, 0));
    }

    private static void nothingUsed() {
        BookTrees x = new BookTrees(16);
        CHECK.due("told(0)", x.told(0), 0);
        CHECK.due("told(1)", x.told(1), 0);
        CHECK.argument("byteAt(0, 0)", () -> x.byteAt(0, 0));
        CHECK.argument("poke(0, 0, 1)", () -> x.poke(0, 0, 1));
        CHECK.due("badAt(0)", x.badAt(0), BookTrees.NONE);
    }

    private static void atMostN() {
        for (int slots : new int[] {16, 17, 199, 200}) {
            BookTrees x = Rolls.roots(slots, slots - 1);
            x.drop(0);
            CHECK.due("commit() into the last of " + slots, x.commit(), slots);
            CHECK.due("told(1)", x.told(1), slots);
            x.drop(0);
            CHECK.due("commit() of one more than " + slots, x.commit(), BookTrees.FULL);
            CHECK.due("copy() of one more than " + slots, x.copy(), BookTrees.FULL);
            CHECK.due("told(1)", x.told(1), slots);
        }
    }

    /** From START 5 on, blocks 5 .. 20 in all 16 slots. */
    private static void allSlotsUsed() {
        BookTrees x = Rolls.copies(16, 6);
        Rolls.addRoots(x, 15);
        CHECK.due("told(0)", x.told(0), 5);
        CHECK.due("told(1)", x.told(1), 21);
        for (int block = 5; block <= 20; block++) {
            CHECK.due("byteAt(" + block + ", 43)", x.byteAt(block, 43), block);
        }
        CHECK.argument("byteAt(4, 0), in the slot of block 20", () -> x.byteAt(4, 0));
        CHECK.argument("byteAt(21, 0), in the slot of block 5", () -> x.byteAt(21, 0));
        CHECK.due("kept(15)", x.kept(15), 6);
        CHECK.due("kept(16)", x.kept(16), BookTrees.NONE);
        CHECK.due("reopen()", x.reopen(), 21);
        CHECK.due("told(0) reopened", x.told(0), 5);
        CHECK.due("kept(15) reopened", x.kept(15), 6);
        CHECK.due("kept(16) reopened", x.kept(16), BookTrees.NONE);
    }

    private static void everyByteCounts() {
        for (int i = 0; i < 64; i++) {
            BookTrees x = Rolls.oneRow(16, 0, 5);
            x.poke(0, i, 1);
            CHECK.due("badAt(0) by byte " + i, x.badAt(0), 0);
            CHECK.due("find(1, 0) by byte " + i, x.find(1, 0), BookTrees.BADLY);
            x.poke(0, i, 1);
            CHECK.due("badAt(0) as it was", x.badAt(0), BookTrees.NONE);
            CHECK.due("find(1, 0) as it was", x.find(1, 0), 5);
        }
    }

    /** The sum of 56 bytes that are 0 is 0, so a block 0 of such bytes has the right sum, and its own number. */
    private static void sumOfNothing() {
        BookTrees x = Rolls.oneRow(16, 0, 5);
        Blocks.turn(x, 0, Blocks.image(Blocks.LEAF, 1, 1, 0, 5), new byte[64]);
        CHECK.due("badAt(0)", x.badAt(0), BookTrees.NONE);
        CHECK.due("find(1, 0), as the kind is wrong", x.find(1, 0), BookTrees.BADLY);
        x.poke(0, 63, 1);
        CHECK.due("badAt(0) with sum 1", x.badAt(0), 0);
    }

    /** The sum of a leaf with row 5 as 78, as the numbers of the document give it. */
    private static void sumWraps() {
        BookTrees x = Rolls.oneRow(16, 5, 78);
        int[] sum = {138, 102, 169, 90, 97, 24, 64, 121};
        for (int i = 0; i < 8; i++) {
            CHECK.due("byteAt(0, " + (56 + i) + ")", x.byteAt(0, 56 + i), sum[i]);
        }
    }

    private static void highestByteFirst() {
        BookTrees x = Rolls.copies(16, 258);
        x.put(0, 0x81020304);
        CHECK.due("commit()", x.commit(), 259);
        dueInt(x, 258, 4, 259);
        dueInt(x, 258, 8, 0x81020304);
        dueInt(x, 258, 40, 258);
        dueInt(x, 259, 8, 258);
        dueInt(x, 261, 8, 260);
        dueInt(x, 261, 16, 257);
    }

    private static void dueInt(BookTrees x, int block, int i, int number) {
        for (int b = 0; b < 4; b++) {
            CHECK.due("byteAt(" + block + ", " + (i + b) + ")", x.byteAt(block, i + b), number >>> 24 - 8 * b & 255);
        }
    }

    private static void bytesThatAreZero() {
        BookTrees x = Rolls.oneRow(16, 511, -1);
        for (int block = 0; block <= 3; block++) {
            CHECK.due("byteAt(" + block + ", 2)", x.byteAt(block, 2), 0);
            CHECK.due("byteAt(" + block + ", 3)", x.byteAt(block, 3), 0);
        }
    }

    private static void numberThenZero() {
        BookTrees x = Rolls.oneRow(16, 511, -1);
        for (int block = 0; block <= 3; block++) {
            dueInt(x, block, 40, block);
            for (int i = 44; i <= 55; i++) {
                CHECK.due("byteAt(" + block + ", " + i + ")", x.byteAt(block, i), 0);
            }
        }
    }
}
