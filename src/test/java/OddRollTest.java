import java.util.Random;

/**
 * Rolls whose blocks say odd things with right sums: no call throws anything but the two
 * exceptions of the document, and the calls agree with one another.
 */
public final class OddRollTest {
    private static final Check CHECK = new Check("OddRollTest");
    private static final int RUNS = 3000;
    private static final int[] PLACES = {
        0, Blocks.BITS, 2, Blocks.VERSION, Blocks.entry(0), Blocks.entry(1), Blocks.entry(2), Blocks.entry(7), Blocks.NUMBER, 44,
    };
    private static final int[] NUMBERS = {
        -1, 0, 1, 2, 3, 4, 16, 255, 999999, 1000000, 1000001, Integer.MAX_VALUE, Integer.MIN_VALUE,
    };

    private final Random random;
    private final int slots;
    private final BookTrees x;

    private OddRollTest(int seed) {
        random = new Random(seed);
        slots = 16 + random.nextInt(20);
        x = new BookTrees(slots);
    }

    public static void main(String[] args) {
        for (int seed = 0; seed < RUNS && CHECK.isClean(); seed++) {
            OddRollTest run = new OddRollTest(seed);
            String name = "run " + seed;
            CHECK.due(name + " throws", Check.thrown(run::play), "nothing");
        }
        CHECK.end();
    }

    private void play() {
        for (int round = 0; round < 3; round++) {
            grow();
            if (x.told(1) > x.told(0)) {
                alter();
            }
            if (random.nextBoolean()) {
                int newest = x.reopen();
                CHECK.due("told(2) reopened", x.told(2), newest);
                CHECK.due("told(4) reopened", x.told(4), 0);
            }
            agree();
        }
        copyKeepsRows();
    }

    private void grow() {
        for (int i = random.nextInt(4); i >= 0; i--) {
            x.put(random.nextInt(3) * 64 + random.nextInt(16), random.nextInt(100));
            x.drop(random.nextInt(200));
            int answer = random.nextInt(6) == 0 ? x.copy() : x.commit();
            CHECK.due("commit() or copy() answers " + answer, answer == BookTrees.BAD || answer == BookTrees.FULL || answer >= 0, true);
        }
    }

    private void alter() {
        int used = x.told(1) - x.told(0);
        int block = random.nextBoolean() ? x.told(1) - 1 : x.told(0) + random.nextInt(used);
        int place = PLACES[random.nextInt(PLACES.length)];
        switch (random.nextInt(3)) {
            case 0 -> Blocks.set(x, block, place, random.nextInt(256));
            case 1 -> Blocks.setInt(x, block, place, NUMBERS[random.nextInt(NUMBERS.length)]);
            default -> Blocks.setInt(x, block, place, x.told(0) + random.nextInt(2 * slots));
        }
        Blocks.mend(x, block);
    }

    private void agree() {
        int start = x.told(0);
        int end = x.told(1);
        int newest = x.told(2);
        CHECK.due("kept(0)", x.kept(0), newest);
        CHECK.due("from START to END", start >= 0 && start <= end && end - start <= slots, true);
        for (int k = 1; x.kept(k) != BookTrees.NONE; k++) {
            CHECK.due("kept(" + k + ") is less than the one before", x.kept(k) < x.kept(k - 1), true);
        }
        if (newest == 0) {
            CHECK.due("next(0, 0)", x.next(0, 0), BookTrees.NONE);
            return;
        }
        int from = random.nextInt(512);
        int next = x.next(newest, from);
        int last = next < 0 ? 511 : next;
        for (int i = 0; i < 10; i++) {
            int key = from + random.nextInt(last - from + 1);
            long found = x.find(newest, key);
            CHECK.due("find(.., " + key + ") against next(.., " + from + ") = " + next,
                    found == BookTrees.GONE || key == next || next == BookTrees.BAD, true);
        }
        if (next >= 0) {
            long found = x.find(newest, next);
            CHECK.due("find() of next()", found == BookTrees.GONE || found == BookTrees.BADLY, false);
        }
    }

    /** A copy has the rows of the version that it was made of. */
    private void copyKeepsRows() {
        x.undo();
        long[] before = new long[16];
        for (int i = 0; i < before.length; i++) {
            before[i] = x.get(13 * i % 200);
        }
        int rows = x.rows(x.told(2));
        int version = x.copy();
        if (version < 0) {
            return;
        }
        for (int i = 0; i < before.length; i++) {
            CHECK.due("find() of a copy", x.find(version, 13 * i % 200), before[i]);
        }
        CHECK.due("rows() of a copy", x.rows(version), rows);
        CHECK.due("badAt(0) of a copy", x.badAt(0), BookTrees.NONE);
    }
}
