/** Promises 15 to 18: byteAt, poke, badAt, told. */
public final class RollTest {
    private static final Check CHECK = new Check("RollTest");

    public static void main(String[] args) {
        bytes();
        pokes();
        badBlocks();
        tells();
        wrongArguments();
        withoutPower();
        CHECK.end();
    }

    /** Blocks 3 .. 8 are used: a copy without rows in 3, a ROOT in 4, a leaf, node, TOP and ROOT in 5 .. 8. */
    private static BookTrees used3To8() {
        BookTrees x = new BookTrees(16);
        x.drop(0);
        x.commit();
        x.drop(0);
        x.commit();
        x.drop(0);
        x.commit();
        x.copy();
        x.drop(0);
        x.commit();
        x.put(0, -2);
        x.commit();
        return x;
    }

    private static void bytes() {
        BookTrees x = used3To8();
        CHECK.due("told(0)", x.told(0), 3);
        CHECK.due("told(1)", x.told(1), 9);
        CHECK.due("byteAt(3, 0)", x.byteAt(3, 0), 4);
        CHECK.due("byteAt(3, 43)", x.byteAt(3, 43), 3);
        CHECK.due("byteAt(3, 19)", x.byteAt(3, 19), 3);
        CHECK.due("byteAt(5, 8)", x.byteAt(5, 8), 255);
        CHECK.due("byteAt(5, 11)", x.byteAt(5, 11), 254);
        Blocks.dueBlock(CHECK, x, Blocks.image(Blocks.LEAF, 1, 6, 5, -2), 5);
        Blocks.dueBlock(CHECK, x, Blocks.image(Blocks.ROOT, 1, 6, 8, 7, 1, 3), 8);
        BookTrees y = new BookTrees(16);
        for (int i = 0; i < 6; i++) {
            y.put(0, i);
            y.commit();
            y.copy();
        }
        CHECK.due("told(1) beyond the slots", y.told(1), 48);
        Blocks.dueBlock(CHECK, y, Blocks.image(Blocks.LEAF, 1, 12, 44, 5), 44);
        CHECK.argument("byteAt(28, 0) in the same slot", () -> y.byteAt(28, 0));
        CHECK.argument("byteAt(60, 0) in the same slot", () -> y.byteAt(60, 0));
    }

    private static void pokes() {
        BookTrees x = new BookTrees(16);
        x.put(0, 0x0F0000F0);
        x.commit();
        CHECK.due("poke(0, 8, 255)", x.poke(0, 8, 255), 0xF0);
        CHECK.due("byteAt(0, 8)", x.byteAt(0, 8), 0xF0);
        CHECK.due("poke(0, 8, 1)", x.poke(0, 8, 1), 0xF1);
        CHECK.due("poke(0, 8, 254)", x.poke(0, 8, 254), 0x0F);
        CHECK.due("badAt(0) mended", x.badAt(0), BookTrees.NONE);
        CHECK.due("poke(3, 63, 128)", x.poke(3, 63, 128), x.byteAt(3, 63));
        CHECK.due("badAt(0)", x.badAt(0), 3);
        CHECK.due("told(3)", x.told(3), 256);
        for (int i = 0; i < 64; i++) {
            BookTrees y = new BookTrees(16);
            y.put(0, 5);
            y.commit();
            int before = y.byteAt(0, i);
            CHECK.due("poke(0, " + i + ", 64)", y.poke(0, i, 64), before ^ 64);
            CHECK.due("badAt(0) by byte " + i, y.badAt(0), 0);
            CHECK.due("get(0) by byte " + i, y.get(0), BookTrees.BADLY);
            CHECK.due("poke(0, " + i + ", 64) again", y.poke(0, i, 64), before);
            CHECK.due("get(0) mended", y.get(0), 5);
        }
    }

    private static void badBlocks() {
        BookTrees x = used3To8();
        CHECK.due("badAt(0) of none", x.badAt(0), BookTrees.NONE);
        x.poke(4, 56, 1);
        x.poke(8, 2, 1);
        x.poke(5, 44, 1);
        CHECK.due("badAt(0)", x.badAt(0), 4);
        CHECK.due("badAt(1)", x.badAt(1), 5);
        CHECK.due("badAt(2)", x.badAt(2), 8);
        CHECK.due("badAt(3)", x.badAt(3), BookTrees.NONE);
        CHECK.due("badAt(max)", x.badAt(Integer.MAX_VALUE), BookTrees.NONE);
        x.poke(4, 56, 1);
        CHECK.due("badAt(0) then", x.badAt(0), 5);
        Blocks.mend(x, 5);
        CHECK.due("badAt(0) with another byte but a right sum", x.badAt(0), 8);
        Blocks.setIntMended(x, 5, Blocks.NUMBER, 21);
        CHECK.due("badAt(0) with a wrong number", x.badAt(0), 5);
        Blocks.setIntMended(x, 5, Blocks.NUMBER, 5);
        CHECK.due("badAt(0) with its number", x.badAt(0), 8);
        Blocks.setMended(x, 6, 0, 9);
        CHECK.due("badAt(0), whatever the kind", x.badAt(0), 8);
    }

    private static void tells() {
        BookTrees x = used3To8();
        x.put(1, 1);
        x.put(2, 1);
        x.drop(9);
        CHECK.due("told(0)", x.told(0), 3);
        CHECK.due("told(1)", x.told(1), 9);
        CHECK.due("told(2)", x.told(2), 6);
        CHECK.due("told(3)", x.told(3), 9 * 64);
        CHECK.due("told(4)", x.told(4), 3);
        x.crash(70);
        CHECK.due("commit()", x.commit(), BookTrees.CUT);
        x.reopen();
        CHECK.due("told(3) cut", x.told(3), 9 * 64 + 70);
        CHECK.due("told(4) cut", x.told(4), 0);
        x.copy();
        CHECK.due("told(3) copied", x.told(3), 9 * 64 + 70 + 256);
        CHECK.due("told(0) copied", x.told(0), 9);
    }

    private static void wrongArguments() {
        BookTrees x = used3To8();
        for (int block : new int[] {2, 9, 0, -1, 19, Integer.MIN_VALUE, Integer.MAX_VALUE}) {
            CHECK.argument("byteAt(" + block + ", 0)", () -> x.byteAt(block, 0));
            CHECK.argument("poke(" + block + ", 0, 1)", () -> x.poke(block, 0, 1));
        }
        for (int i : new int[] {-1, 64, Integer.MIN_VALUE, Integer.MAX_VALUE}) {
            CHECK.argument("byteAt(4, " + i + ")", () -> x.byteAt(4, i));
            CHECK.argument("poke(4, " + i + ", 1)", () -> x.poke(4, i, 1));
        }
        for (int mask : new int[] {0, 256, -1, Integer.MIN_VALUE, Integer.MAX_VALUE}) {
            CHECK.argument("poke(4, 0, " + mask + ")", () -> x.poke(4, 0, mask));
        }
        for (int what : new int[] {-1, 5, Integer.MIN_VALUE, Integer.MAX_VALUE}) {
            CHECK.argument("told(" + what + ")", () -> x.told(what));
        }
        CHECK.argument("badAt(-1)", () -> x.badAt(-1));
        CHECK.argument("badAt(min)", () -> x.badAt(Integer.MIN_VALUE));
        CHECK.due("badAt(0)", x.badAt(0), BookTrees.NONE);
    }

    private static void withoutPower() {
        BookTrees x = used3To8();
        x.crash(0);
        CHECK.state("byteAt(4, 0)", () -> x.byteAt(4, 0));
        CHECK.state("poke(4, 0, 1)", () -> x.poke(4, 0, 1));
        CHECK.state("badAt(0)", () -> x.badAt(0));
        CHECK.argument("byteAt(2, 0) without power", () -> x.byteAt(2, 0));
        CHECK.argument("byteAt(4, 64) without power", () -> x.byteAt(4, 64));
        CHECK.argument("poke(4, 0, 0) without power", () -> x.poke(4, 0, 0));
        CHECK.argument("badAt(-1) without power", () -> x.badAt(-1));
        for (int what = 0; what <= 4; what++) {
            int asked = what;
            CHECK.state("told(" + what + ")", () -> x.told(asked));
        }
        CHECK.argument("told(5) without power", () -> x.told(5));
        x.reopen();
        CHECK.due("badAt(0)", x.badAt(0), BookTrees.NONE);
    }
}
