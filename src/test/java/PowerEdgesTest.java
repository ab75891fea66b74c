/** The edges that the document's terms name for the power and for reopening. One test for each sentence. */
public final class PowerEdgesTest {
    private static final Check CHECK = new Check("PowerEdgesTest");
    private static final int[] CUTS = {1, 2, 55, 56, 57, 63, 64, 65, 127, 128, 129, 191, 192, 193, 255};

    public static void main(String[] args) {
        CHECK.of("it fails when n more bytes were written: over several calls", PowerEdgesTest::overSeveralCalls);
        CHECK.of("it fails when n more bytes were written: not before", PowerEdgesTest::oneByteMoreThanNeeded);
        CHECK.of("it fails when n more bytes were written: a refused commit or copy writes none", PowerEdgesTest::refusedWriteNone);
        CHECK.of("the last one is there, what comes behind it is not written", PowerEdgesTest::lastByteIsThere);
        CHECK.of("A slot in which just some bytes of a block were written is TORN", PowerEdgesTest::someBytesAreTorn);
        CHECK.of("TORN till a block is written there whole", PowerEdgesTest::tornTillWritten);
        CHECK.of("TORN till a block is written there whole: some bytes once more are not enough", PowerEdgesTest::tornTwice);
        CHECK.of("TORN till a block is written there whole: a poke is not enough", PowerEdgesTest::tornAndPoked);
        CHECK.of("its sum is a wrong one, whatever it is", PowerEdgesTest::sameBytesAreTorn);
        CHECK.of("The call answers CUT, even if it was its last byte: a commit", PowerEdgesTest::lastByteOfCommit);
        CHECK.of("The call answers CUT, even if it was its last byte: a copy", PowerEdgesTest::lastByteOfCopy);
        CHECK.of("REOPENING looks at all slots", PowerEdgesTest::allSlots);
        CHECK.of("a ROOT is WHOLE if its sum is right", PowerEdgesTest::wholeBySum);
        CHECK.of("WHOLE if .. its kind 4", PowerEdgesTest::wholeByKind);
        CHECK.of("WHOLE if .. its number 0 .. 1000000", PowerEdgesTest::wholeByNumber);
        CHECK.of("WHOLE if .. and one that lies in this slot", PowerEdgesTest::wholeBySlot);
        CHECK.of("WHOLE if .. its VERSION 1 .. 1000000", PowerEdgesTest::wholeByVersion);
        CHECK.of("WHOLE if .. its START 0 .. its number", PowerEdgesTest::wholeByStart);
        CHECK.of("WHOLE if .. and less than N below it", PowerEdgesTest::wholeByLength);
        CHECK.of("The newest is the whole root with the greatest VERSION", PowerEdgesTest::greatestVersion);
        CHECK.of("of several the one with the greatest number", PowerEdgesTest::greatestNumber);
        CHECK.of("of several the one with the greatest number: it lies in a lesser slot", PowerEdgesTest::greatestNumberOverTheEnd);
        CHECK.of("END is behind it, START as it says", PowerEdgesTest::startAndEnd);
        CHECK.of("without any, version 0 is the newest, and START and END are 0", PowerEdgesTest::withoutAny);
        CHECK.of("Kept are the whole roots from START", PowerEdgesTest::keptFromStart);
        CHECK.of("up to END", PowerEdgesTest::keptUpToEnd);
        CHECK.of("Kept are the whole roots: no others", PowerEdgesTest::keptIfWhole);
        CHECK.of("of several with one version the greatest", PowerEdgesTest::keptGreatest);
        CHECK.of("The draft is empty", PowerEdgesTest::draftIsEmpty);
        CHECK.of("VERSION 1 .. 1000000: a commit goes beyond it, a reopening not", PowerEdgesTest::beyondTheLastVersion);
        CHECK.of("its number 0 .. 1000000: a commit goes beyond it, a reopening not", PowerEdgesTest::beyondTheLastNumber);
        CHECK.end();
    }

    private static void overSeveralCalls() {
        BookTrees x = new BookTrees(40);
        x.crash(256 + 64 + 256 + 1);
        x.put(0, 1);
        CHECK.due("commit() of 256", x.commit(), 1);
        x.drop(0);
        CHECK.due("commit() of 64", x.commit(), 2);
        CHECK.due("copy() of 64", x.copy(), 3);
        x.put(0, 1);
        CHECK.due("commit() of 256 with 193", x.commit(), BookTrees.CUT);
        CHECK.due("isDown()", x.isDown(), true);
        CHECK.due("reopen()", x.reopen(), 3);
        CHECK.due("told(3)", x.told(3), 577);
    }

    private static void oneByteMoreThanNeeded() {
        BookTrees x = new BookTrees(16);
        x.crash(65);
        x.drop(0);
        CHECK.due("commit() of 64 with 65", x.commit(), 1);
        CHECK.due("isDown()", x.isDown(), false);
        x.drop(0);
        CHECK.due("commit() of 64 with 1", x.commit(), BookTrees.CUT);
        CHECK.due("isDown()", x.isDown(), true);
    }

    private static void refusedWriteNone() {
        BookTrees x = Rolls.threeRows(16);
        x.crash(1);
        x.put(0, 1);
        x.poke(6, 0, 1);
        CHECK.due("commit() that is BAD", x.commit(), BookTrees.BAD);
        CHECK.due("copy() that is BAD", x.copy(), BookTrees.BAD);
        CHECK.due("isDown()", x.isDown(), false);
        CHECK.due("told(3)", x.told(3), 7 * 64);
        BookTrees y = Rolls.roots(16, 16);
        y.crash(1);
        y.drop(0);
        CHECK.due("commit() that is FULL", y.commit(), BookTrees.FULL);
        CHECK.due("copy() that is FULL", y.copy(), BookTrees.FULL);
        CHECK.due("isDown()", y.isDown(), false);
        CHECK.due("told(3)", y.told(3), 16 * 64);
    }

    /**
     * A ROOT in block 0, and blocks 1 .. 4 cut behind some bytes; then that ROOT is made block 16, from
     * block 1 on, so that slots 1 .. 15 are used as they are.
     */
    private static BookTrees cutAt(int bytes) {
        BookTrees x = Rolls.roots(16, 1);
        x.put(7, -1);
        x.crash(bytes);
        CHECK.due("commit() with " + bytes, x.commit(), BookTrees.CUT);
        CHECK.due("reopen()", x.reopen(), 1);
        useAllSlots(x);
        return x;
    }

    private static void useAllSlots(BookTrees x) {
        Blocks.turn(x, 0, Blocks.image(Blocks.ROOT, 0, 1, 0), Blocks.image(Blocks.ROOT, 0, 9, 16, 0, 0, 1));
        CHECK.due("reopen() from block 1 to block 16", x.reopen(), 9);
    }

    private static void lastByteIsThere() {
        byte[][] want = {
            Blocks.image(Blocks.LEAF, 128, 2, 1, 0, 0, 0, 0, 0, 0, 0, -1),
            Blocks.image(Blocks.NODE, 1, 2, 2, 1),
            Blocks.image(Blocks.TOP, 1, 2, 3, 2),
            Blocks.image(Blocks.ROOT, 1, 2, 4, 3, 1, 0),
        };
        for (int cut : CUTS) {
            BookTrees x = cutAt(cut);
            for (int block = 1; block <= 4; block++) {
                byte[] there = new byte[64];
                int count = Math.max(0, Math.min(64, cut - 64 * (block - 1)));
                System.arraycopy(want[block - 1], 0, there, 0, count);
                Blocks.dueBlock(CHECK, x, there, block);
            }
        }
    }

    /** Version 2 in 1 .. 4, its ROOT bad: what is cut there has the bytes that were there before. */
    private static BookTrees sameBytesCutAt(int bytes) {
        BookTrees x = Rolls.roots(16, 1);
        x.put(7, -1);
        x.commit();
        x.poke(4, 55, 1);
        CHECK.due("reopen() without version 2", x.reopen(), 1);
        x.put(7, -1);
        x.crash(bytes);
        CHECK.due("commit() with " + bytes, x.commit(), BookTrees.CUT);
        CHECK.due("reopen()", x.reopen(), 1);
        return x;
    }

    /** Block 4 is bad in any case, and those from 5 on, where nothing was written. */
    private static void someBytesAreTorn() {
        for (int cut : CUTS) {
            BookTrees x = sameBytesCutAt(cut);
            useAllSlots(x);
            int torn = cut % 64 == 0 ? 4 : 1 + cut / 64;
            CHECK.due("badAt(0), cut at " + cut, x.badAt(0), torn);
            CHECK.due("badAt(1), cut at " + cut, x.badAt(1), torn == 4 ? 5 : 4);
        }
    }

    private static void tornTillWritten() {
        for (int cut : CUTS) {
            BookTrees x = sameBytesCutAt(cut);
            x.put(7, -1);
            CHECK.due("commit() whole", x.commit(), 2);
            CHECK.due("badAt(0)", x.badAt(0), BookTrees.NONE);
            CHECK.due("find(2, 7)", x.find(2, 7), -1);
            CHECK.due("reopen()", x.reopen(), 2);
            CHECK.due("find(2, 7) reopened", x.find(2, 7), -1);
        }
    }

    private static void tornTwice() {
        for (int again : new int[] {1, 30, 63, 64}) {
            BookTrees x = sameBytesCutAt(30);
            x.put(7, -1);
            x.crash(again);
            CHECK.due("commit()", x.commit(), BookTrees.CUT);
            CHECK.due("reopen()", x.reopen(), 1);
            useAllSlots(x);
            CHECK.due("badAt(0), cut at 30 and " + again, x.badAt(0), again == 64 ? 4 : 1);
        }
        BookTrees y = sameBytesCutAt(64 + 30);
        y.put(7, -1);
        y.crash(64);
        CHECK.due("commit() up to the torn slot", y.commit(), BookTrees.CUT);
        CHECK.due("reopen()", y.reopen(), 1);
        useAllSlots(y);
        CHECK.due("badAt(0), torn still", y.badAt(0), 2);
    }

    private static void tornAndPoked() {
        BookTrees x = cutAt(63);
        byte[] leaf = Blocks.image(Blocks.LEAF, 128, 2, 1, 0, 0, 0, 0, 0, 0, 0, -1);
        CHECK.due("badAt(0)", x.badAt(0), 1);
        Blocks.set(x, 1, 63, leaf[63]);
        Blocks.dueBlock(CHECK, x, leaf, 1);
        CHECK.due("badAt(0) with all bytes right", x.badAt(0), 1);
    }

    /** The ROOT that is cut has all its bytes: those behind the cut are as they were before. */
    private static void sameBytesAreTorn() {
        for (int cut = 1; cut <= 64; cut++) {
            BookTrees x = Rolls.roots(16, 2);
            x.poke(1, cut - 1, 1);
            CHECK.due("reopen() without version 2", x.reopen(), 1);
            x.drop(0);
            x.crash(cut);
            CHECK.due("commit() with " + cut, x.commit(), BookTrees.CUT);
            CHECK.due("reopen() with " + cut, x.reopen(), cut == 64 ? 2 : 1);
            CHECK.due("told(1) with " + cut, x.told(1), cut == 64 ? 2 : 1);
        }
    }

    private static void lastByteOfCommit() {
        for (int bytes = 255; bytes <= 257; bytes++) {
            BookTrees x = new BookTrees(16);
            x.put(0, 5);
            x.crash(bytes);
            CHECK.due("commit() with " + bytes, x.commit(), bytes <= 256 ? BookTrees.CUT : 1);
            CHECK.due("isDown() with " + bytes, x.isDown(), bytes <= 256);
            CHECK.due("reopen() with " + bytes, x.reopen(), bytes >= 256 ? 1 : 0);
            CHECK.due("get(0) with " + bytes, x.get(0), bytes >= 256 ? 5 : BookTrees.GONE);
            CHECK.due("told(1) with " + bytes, x.told(1), bytes >= 256 ? 4 : 0);
            CHECK.due("told(3) with " + bytes, x.told(3), Math.min(bytes, 256));
        }
    }

    private static void lastByteOfCopy() {
        for (int bytes = 255; bytes <= 257; bytes++) {
            BookTrees x = Rolls.oneRow(16, 0, 5);
            x.crash(bytes);
            CHECK.due("copy() with " + bytes, x.copy(), bytes <= 256 ? BookTrees.CUT : 2);
            CHECK.due("isDown() with " + bytes, x.isDown(), bytes <= 256);
            CHECK.due("reopen() with " + bytes, x.reopen(), bytes >= 256 ? 2 : 1);
            CHECK.due("get(0) with " + bytes, x.get(0), 5);
            CHECK.due("told(0) with " + bytes, x.told(0), bytes >= 256 ? 4 : 0);
            CHECK.due("told(1) with " + bytes, x.told(1), bytes >= 256 ? 8 : 4);
            CHECK.due("kept(1) with " + bytes, x.kept(1), bytes >= 256 ? BookTrees.NONE : 0);
        }
    }

    /** The newest root in the first and in the last slot. */
    private static void allSlots() {
        for (int slots : new int[] {16, 200}) {
            BookTrees x = Rolls.copies(slots, slots);
            CHECK.due("reopen() with a root in slot N - 1", x.reopen(), slots);
            CHECK.due("told(0)", x.told(0), slots - 1);
            x.copy();
            CHECK.due("reopen() with a root in slot 0", x.reopen(), slots + 1);
            CHECK.due("told(0)", x.told(0), slots);
        }
    }

    /** Roots in slots 0 .. slot of 16, the last one as an image of version 1000 says: whether it is taken. */
    private static void dueWhole(String what, int slot, byte[] image, boolean whole) {
        BookTrees x = Rolls.roots(16, slot + 1);
        Blocks.turn(x, slot, Blocks.image(Blocks.ROOT, 0, slot + 1, slot), image);
        CHECK.due("reopen() with " + what + " in slot " + slot, x.reopen(), whole ? 1000 : slot);
    }

    private static void dueWholeNumber(int slot, int number, int start, boolean whole) {
        dueWhole("block " + number + " from " + start + " on", slot,
                Blocks.image(Blocks.ROOT, 0, 1000, number, 0, 0, start), whole);
    }

    private static void wholeBySum() {
        for (int i = 0; i < 64; i++) {
            BookTrees x = Rolls.roots(16, 2);
            x.poke(1, i, 16);
            CHECK.due("reopen() with another byte " + i, x.reopen(), 1);
        }
        dueWhole("another entry 7", 1, Blocks.image(Blocks.ROOT, 0, 1000, 1, 0, 0, 0, 0, 0, 0, 0, -1), true);
        dueWhole("all bits, entries 0 and 1", 1, Blocks.image(Blocks.ROOT, 255, 1000, 1, -1, -1), true);
    }

    private static void wholeByKind() {
        for (int kind = 0; kind < 256; kind++) {
            dueWhole("kind " + kind, 1, Blocks.image(kind, 0, 1000, 1), kind == Blocks.ROOT);
        }
    }

    /** 1000000 lies in slot 0 of 16. */
    private static void wholeByNumber() {
        dueWholeNumber(0, 0, 0, true);
        dueWholeNumber(0, -16, 0, false);
        dueWholeNumber(0, -16, -16, false);
        dueWholeNumber(15, -1, 0, false);
        dueWholeNumber(15, -1, -1, false);
        dueWholeNumber(0, Integer.MIN_VALUE, 0, false);
        dueWholeNumber(0, Integer.MIN_VALUE, Integer.MIN_VALUE, false);
        dueWholeNumber(15, 999999, 999999, true);
        dueWholeNumber(0, 1000000, 1000000, true);
        dueWholeNumber(1, 1000001, 1000001, false);
        dueWholeNumber(0, 1000016, 1000016, false);
        dueWholeNumber(15, Integer.MAX_VALUE, Integer.MAX_VALUE, false);
    }

    private static void wholeBySlot() {
        for (int number = 0; number <= 35; number++) {
            dueWholeNumber(3, number, number, number % 16 == 3);
        }
        BookTrees x = Rolls.roots(17, 1);
        Blocks.turn(x, 0, Blocks.image(Blocks.ROOT, 0, 1, 0), Blocks.image(Blocks.ROOT, 0, 1, 16, 0, 0, 16));
        CHECK.due("reopen() with block 16 in slot 0 of 17", x.reopen(), 0);
    }

    private static void wholeByVersion() {
        int[] versions = {Integer.MIN_VALUE, -1000000, -1, 0, 1, 2, 999999, 1000000, 1000001, 16777216, Integer.MAX_VALUE};
        for (int version : versions) {
            BookTrees x = Rolls.roots(16, 1);
            if (version != 1) {
                Blocks.turn(x, 0, Blocks.image(Blocks.ROOT, 0, 1, 0), Blocks.image(Blocks.ROOT, 0, version, 0));
            }
            boolean whole = version >= 1 && version <= 1000000;
            CHECK.due("reopen() with version " + version, x.reopen(), whole ? version : 0);
            CHECK.due("told(1)", x.told(1), whole ? 1 : 0);
        }
    }

    private static void wholeByStart() {
        dueWholeNumber(5, 5, Integer.MIN_VALUE, false);
        dueWholeNumber(5, 5, -1, false);
        dueWholeNumber(5, 5, 0, true);
        dueWholeNumber(5, 5, 4, true);
        dueWholeNumber(5, 5, 5, true);
        dueWholeNumber(5, 5, 6, false);
        dueWholeNumber(5, 5, Integer.MAX_VALUE, false);
    }

    private static void wholeByLength() {
        dueWholeNumber(15, 15, 0, true);
        dueWholeNumber(0, 16, 1, true);
        dueWholeNumber(0, 16, 0, false);
        dueWholeNumber(5, 37, 37 - 15, true);
        dueWholeNumber(5, 37, 37 - 16, false);
        dueWholeNumber(0, 1000000, 1000000 - 15, true);
        dueWholeNumber(0, 1000000, 1000000 - 16, false);
        dueWholeNumber(0, 1000000, 0, false);
        BookTrees x = Rolls.roots(200, 1);
        Blocks.turn(x, 0, Blocks.image(Blocks.ROOT, 0, 1, 0), Blocks.image(Blocks.ROOT, 0, 1, 200, 0, 0, 1));
        CHECK.due("reopen() with 200 blocks of 200", x.reopen(), 1);
        BookTrees y = Rolls.roots(200, 1);
        Blocks.turn(y, 0, Blocks.image(Blocks.ROOT, 0, 1, 0), Blocks.image(Blocks.ROOT, 0, 1, 200, 0, 0, 0));
        CHECK.due("reopen() with 201 blocks of 200", y.reopen(), 0);
    }

    private static void greatestVersion() {
        for (int slot = 0; slot < 5; slot++) {
            BookTrees x = Rolls.roots(16, 5);
            Blocks.turn(x, slot, Blocks.image(Blocks.ROOT, 0, slot + 1, slot), Blocks.image(Blocks.ROOT, 0, 1000000, slot));
            CHECK.due("reopen() with it in slot " + slot, x.reopen(), 1000000);
            CHECK.due("told(1)", x.told(1), slot + 1);
            CHECK.due("told(2)", x.told(2), 1000000);
            CHECK.due("kept(0)", x.kept(0), 1000000);
        }
    }

    private static void greatestNumber() {
        BookTrees x = Rolls.roots(16, 5);
        Blocks.turn(x, 1, Blocks.image(Blocks.ROOT, 0, 2, 1), Blocks.image(Blocks.ROOT, 0, 50, 1, 0, 101));
        Blocks.turn(x, 3, Blocks.image(Blocks.ROOT, 0, 4, 3), Blocks.image(Blocks.ROOT, 0, 50, 3, 0, 103));
        CHECK.due("reopen()", x.reopen(), 50);
        CHECK.due("told(1)", x.told(1), 4);
        CHECK.due("rows(50)", x.rows(50), 103);
    }

    /** Blocks 15 in slot 15 and 17 in slot 1 have one version. */
    private static void greatestNumberOverTheEnd() {
        BookTrees x = Rolls.copies(16, 15);
        Rolls.addRoots(x, 3);
        Blocks.turn(x, 15, Blocks.image(Blocks.ROOT, 0, 16, 15, 0, 0, 14), Blocks.image(Blocks.ROOT, 0, 50, 15, 0, 101, 14));
        Blocks.turn(x, 17, Blocks.image(Blocks.ROOT, 0, 18, 17, 0, 0, 14), Blocks.image(Blocks.ROOT, 0, 50, 17, 0, 103, 14));
        CHECK.due("reopen()", x.reopen(), 50);
        CHECK.due("told(1)", x.told(1), 18);
        CHECK.due("rows(50)", x.rows(50), 103);
        CHECK.due("kept(1)", x.kept(1), 17);
    }

    private static void startAndEnd() {
        for (int start = 0; start <= 4; start++) {
            BookTrees x = Rolls.roots(16, 5);
            Blocks.turn(x, 4, Blocks.image(Blocks.ROOT, 0, 5, 4), Blocks.image(Blocks.ROOT, 0, 5, 4, 0, 1, start));
            CHECK.due("reopen()", x.reopen(), 5);
            CHECK.due("told(0)", x.told(0), start);
            CHECK.due("told(1)", x.told(1), 5);
        }
    }

    private static void withoutAny() {
        BookTrees x = new BookTrees(16);
        CHECK.due("reopen() of a new one", x.reopen(), 0);
        dueEmpty(x);
        BookTrees y = Rolls.copies(16, 3);
        Rolls.addRoots(y, 2);
        CHECK.due("told(0)", y.told(0), 2);
        y.poke(2, 60, 1);
        y.poke(3, 60, 1);
        y.poke(4, 60, 1);
        CHECK.due("reopen(), old roots are whole", y.reopen(), 2);
        CHECK.due("told(0)", y.told(0), 1);
        y.poke(1, 60, 1);
        CHECK.due("reopen(), an old root is whole", y.reopen(), 1);
        CHECK.due("told(0)", y.told(0), 0);
        y.poke(0, 60, 1);
        CHECK.due("reopen() without any", y.reopen(), 0);
        dueEmpty(y);
        y.put(0, 5);
        CHECK.due("commit() from block 0 on", y.commit(), 1);
        CHECK.due("told(1)", y.told(1), 4);
        BookTrees z = new BookTrees(16);
        z.drop(0);
        z.crash(63);
        z.commit();
        CHECK.due("reopen() with a torn root", z.reopen(), 0);
        dueEmpty(z);
    }

    private static void dueEmpty(BookTrees x) {
        CHECK.due("told(0)", x.told(0), 0);
        CHECK.due("told(1)", x.told(1), 0);
        CHECK.due("told(2)", x.told(2), 0);
        CHECK.due("kept(0)", x.kept(0), 0);
        CHECK.due("kept(1)", x.kept(1), BookTrees.NONE);
        CHECK.argument("byteAt(0, 0)", () -> x.byteAt(0, 0));
    }

    private static void keptFromStart() {
        BookTrees x = Rolls.roots(16, 5);
        Blocks.turn(x, 4, Blocks.image(Blocks.ROOT, 0, 5, 4), Blocks.image(Blocks.ROOT, 0, 5, 4, 0, 0, 2));
        CHECK.due("reopen()", x.reopen(), 5);
        CHECK.due("rows(3), its root in START", x.rows(3), 0);
        CHECK.argument("rows(2), its root below START", () -> x.rows(2));
        CHECK.argument("rows(0)", () -> x.rows(0));
        CHECK.due("kept(2)", x.kept(2), 3);
        CHECK.due("kept(3)", x.kept(3), BookTrees.NONE);
    }

    /** The whole roots in 3 and 4 have lesser versions than the one in 2. */
    private static void keptUpToEnd() {
        BookTrees x = Rolls.roots(16, 5);
        Blocks.turn(x, 2, Blocks.image(Blocks.ROOT, 0, 3, 2), Blocks.image(Blocks.ROOT, 0, 70, 2));
        CHECK.due("reopen()", x.reopen(), 70);
        CHECK.due("told(1)", x.told(1), 3);
        CHECK.due("kept(1)", x.kept(1), 2);
        CHECK.due("kept(2)", x.kept(2), 1);
        CHECK.due("kept(3)", x.kept(3), 0);
        CHECK.due("kept(4)", x.kept(4), BookTrees.NONE);
        CHECK.argument("rows(4), its root in END", () -> x.rows(4));
    }

    private static void keptIfWhole() {
        BookTrees x = Rolls.roots(16, 5);
        x.poke(1, 50, 1);
        CHECK.due("kept(3) before", x.kept(3), 2);
        Blocks.setMended(x, 2, 0, Blocks.TOP);
        CHECK.due("kept(2) before", x.kept(2), 3);
        CHECK.due("reopen()", x.reopen(), 5);
        CHECK.due("kept(1)", x.kept(1), 4);
        CHECK.due("kept(2)", x.kept(2), 1);
        CHECK.due("kept(3)", x.kept(3), 0);
        CHECK.argument("find(2, 0)", () -> x.find(2, 0));
        CHECK.argument("find(3, 0)", () -> x.find(3, 0));
    }

    /** Roots of one version on both sides of the end of the roll: 15 in slot 15, 16 in slot 0. */
    private static void keptGreatest() {
        BookTrees x = Rolls.copies(16, 15);
        Rolls.addRoots(x, 3);
        Blocks.turn(x, 15, Blocks.image(Blocks.ROOT, 0, 16, 15, 0, 0, 14), Blocks.image(Blocks.ROOT, 0, 7, 15, 0, 101, 14));
        Blocks.turn(x, 16, Blocks.image(Blocks.ROOT, 0, 17, 16, 0, 0, 14), Blocks.image(Blocks.ROOT, 0, 7, 16, 0, 102, 14));
        CHECK.due("reopen()", x.reopen(), 18);
        CHECK.due("kept(1)", x.kept(1), 15);
        CHECK.due("kept(2)", x.kept(2), 7);
        CHECK.due("kept(3)", x.kept(3), BookTrees.NONE);
        CHECK.due("rows(7)", x.rows(7), 102);
    }

    private static void draftIsEmpty() {
        BookTrees x = Rolls.oneRow(16, 0, 5);
        x.put(0, 6);
        x.drop(9);
        CHECK.due("reopen() with power", x.reopen(), 1);
        CHECK.due("told(4)", x.told(4), 0);
        CHECK.due("get(0)", x.get(0), 5);
        CHECK.due("commit()", x.commit(), 1);
        x.put(0, 6);
        x.crash(0);
        CHECK.due("reopen() without power", x.reopen(), 1);
        CHECK.due("undo()", x.undo(), 0);
        CHECK.due("get(0)", x.get(0), 5);
        x.put(0, 6);
        x.crash(100);
        CHECK.due("commit()", x.commit(), BookTrees.CUT);
        CHECK.due("reopen() behind a cut", x.reopen(), 1);
        CHECK.due("told(4)", x.told(4), 0);
        CHECK.due("get(0)", x.get(0), 5);
    }

    private static void beyondTheLastVersion() {
        BookTrees x = Rolls.roots(16, 1);
        Blocks.turn(x, 0, Blocks.image(Blocks.ROOT, 0, 1, 0), Blocks.image(Blocks.ROOT, 0, 1000000, 0));
        CHECK.due("reopen()", x.reopen(), 1000000);
        x.drop(0);
        CHECK.due("commit()", x.commit(), 1000001);
        CHECK.due("rows(1000001)", x.rows(1000001), 0);
        CHECK.due("reopen() again", x.reopen(), 1000000);
        CHECK.due("told(1)", x.told(1), 1);
    }

    private static void beyondTheLastNumber() {
        BookTrees x = Rolls.roots(16, 1);
        Blocks.turn(x, 0, Blocks.image(Blocks.ROOT, 0, 1, 0), Blocks.image(Blocks.ROOT, 0, 1, 1000000, 0, 0, 1000000));
        CHECK.due("reopen()", x.reopen(), 1);
        CHECK.due("told(0)", x.told(0), 1000000);
        x.put(0, 5);
        CHECK.due("commit()", x.commit(), 2);
        CHECK.due("find(2, 0)", x.find(2, 0), 5);
        CHECK.due("told(1)", x.told(1), 1000005);
        CHECK.due("reopen() again", x.reopen(), 1);
        CHECK.due("told(1)", x.told(1), 1000001);
    }
}
