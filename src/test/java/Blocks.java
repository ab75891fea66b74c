import java.nio.ByteBuffer;
import java.util.function.Supplier;

/** Blocks as the document says them, made apart from the class under test; and what alters them through its face. */
final class Blocks {
    static final int LEAF = 1;
    static final int NODE = 2;
    static final int TOP = 3;
    static final int ROOT = 4;

    static final int BITS = 1;
    static final int VERSION = 4;
    static final int NUMBER = 40;
    static final int SUM = 56;

    private Blocks() {
    }

    static int entry(int k) {
        return 8 + 4 * k;
    }

    /** All 64 bytes of a block; entries that are not given are 0. */
    static byte[] image(int kind, int bits, int version, int number, int... entries) {
        ByteBuffer block = ByteBuffer.allocate(64);
        block.put(0, (byte) kind).put(BITS, (byte) bits).putInt(VERSION, version).putInt(NUMBER, number);
        for (int k = 0; k < entries.length; k++) {
            block.putInt(entry(k), entries[k]);
        }
        return block.putLong(SUM, sum(block.array())).array();
    }

    static long sum(byte[] block) {
        long s = 0;
        for (int i = 0; i < SUM; i++) {
            s = Long.rotateLeft(s ^ (block[i] & 0xFF), 47) * 0xC2B2AE3D27D4EB4FL;
        }
        return s;
    }

    static byte[] read(BookTrees x, int number) {
        byte[] block = new byte[64];
        for (int i = 0; i < 64; i++) {
            block[i] = (byte) x.byteAt(number, i);
        }
        return block;
    }

    static void dueBlock(Check check, BookTrees x, byte[] want, int number) {
        for (int i = 0; i < 64; i++) {
            check.due("byteAt(" + number + ", " + i + ")", x.byteAt(number, i), want[i] & 0xFF);
        }
    }

    /** Looks at blocks from one on, each in an object of its own, as an object is good for 512 calls only. */
    static void dueBlocks(Check check, Supplier<BookTrees> maker, int first, byte[]... want) {
        for (int i = 0; i < want.length; i++) {
            dueBlock(check, maker.get(), want[i], first + i);
        }
    }

    /** Makes a used block that is as one image says as another one says. */
    static void turn(BookTrees x, int number, byte[] was, byte[] becomes) {
        for (int i = 0; i < 64; i++) {
            if (was[i] != becomes[i]) {
                x.poke(number, i, (was[i] ^ becomes[i]) & 0xFF);
            }
        }
    }

    /** Makes a byte of a used block the one that is wanted; the sum may be wrong then. */
    static void set(BookTrees x, int number, int i, int value) {
        int mask = x.byteAt(number, i) ^ (value & 0xFF);
        if (mask != 0) {
            x.poke(number, i, mask);
        }
    }

    static void setInt(BookTrees x, int number, int i, int value) {
        for (int b = 0; b < 4; b++) {
            set(x, number, i + b, value >>> 24 - 8 * b);
        }
    }

    /** Makes the sum of a used block right for its contents. */
    static void mend(BookTrees x, int number) {
        long sum = sum(read(x, number));
        setInt(x, number, SUM, (int) (sum >>> 32));
        setInt(x, number, SUM + 4, (int) sum);
    }

    static void setMended(BookTrees x, int number, int i, int value) {
        set(x, number, i, value);
        mend(x, number);
    }

    static void setIntMended(BookTrees x, int number, int i, int value) {
        setInt(x, number, i, value);
        mend(x, number);
    }
}
