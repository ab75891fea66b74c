import java.nio.ByteBuffer;
import java.util.ArrayDeque;
import java.util.Deque;
import java.util.Random;
import java.util.Set;

/** All promises: mixed runs on rolls whose blocks are altered and their sums mended, each answer against ByteModel's. */
public final class BytesTest {
    private static final Check CHECK = new Check("BytesTest");
    private static final int RUNS = 4000;
    private static final int CALLS = 512;
    private static final int[] SIZES = {16, 16, 17, 20, 24, 33, 48, 90, 200};
    /** The calls that name a version or a block. */
    private static final Set<String> NAMING = Set.of("find", "next", "rows", "byteAt", "poke");
    private static final int[] BYTES = {0, 1, 2, 3, 4, 5, 8, 15, 128, 255};
    private static final int[] NUMBERS = {
        -1, 0, 1, 2, 3, 5, 255, 999999, 1000000, 1000001, Integer.MIN_VALUE, Integer.MAX_VALUE,
    };

    private final Random random;
    private final BookTrees x;
    private final ByteModel model;
    private final Deque<String> told = new ArrayDeque<>();
    private final int leaves;
    private int calls;

    private BytesTest(int seed) {
        random = new Random(seed);
        int size = SIZES[random.nextInt(SIZES.length)];
        leaves = 1 + random.nextInt(random.nextInt(3) == 0 ? 64 : 4);
        x = new BookTrees(size);
        model = new ByteModel(size);
        told.add("run " + seed + ": new BookTrees(" + size + ")");
    }

    /** Takes how many runs, and the first one's seed. */
    public static void main(String[] args) {
        int runs = args.length == 0 ? RUNS : Integer.parseInt(args[0]);
        int first = args.length < 2 ? 0 : Integer.parseInt(args[1]);
        for (int seed = first; seed < first + runs && CHECK.isClean(); seed++) {
            BytesTest run = new BytesTest(seed);
            while (run.calls < CALLS && CHECK.isClean()) {
                run.step();
            }
        }
        CHECK.end();
    }

    private void step() {
        if (model.isDown() && random.nextInt(2) == 0) {
            ask("reopen", 0, 0, 0);
            return;
        }
        int dice = random.nextInt(100);
        if (dice < 20) {
            ask("put", key(), random.nextInt(4) == 0 ? random.nextInt() : random.nextInt(9), 0);
        } else if (dice < 30) {
            ask("drop", key(), 0, 0);
        } else if (dice < 31) {
            ask("undo", 0, 0, 0);
        } else if (dice < 46) {
            ask("commit", 0, 0, 0);
        } else if (dice < 52) {
            ask("copy", 0, 0, 0);
        } else if (dice < 56) {
            ask("reopen", 0, 0, 0);
        } else if (dice < 58) {
            ask("crash", random.nextInt(600) - 1, 0, 0);
        } else if (dice < 60) {
            ask("poke", block(), random.nextInt(64), 1 + random.nextInt(255));
        } else if (dice < 66) {
            rewrite();
        } else {
            look(random.nextInt(9));
        }
    }

    private void look(int which) {
        switch (which) {
            case 0 -> ask("get", key(), 0, 0);
            case 1 -> ask("find", version(), key(), 0);
            case 2 -> ask("next", version(), random.nextInt(3) == 0 ? 0 : key(), 0);
            case 3 -> ask("rows", version(), 0, 0);
            case 4 -> ask("kept", random.nextInt(5), 0, 0);
            case 5 -> ask("isDown", 0, 0, 0);
            case 6 -> ask("byteAt", block(), random.nextInt(64), 0);
            case 7 -> ask("badAt", random.nextInt(3), 0, 0);
            default -> ask("told", random.nextInt(5), 0, 0);
        }
    }

    /** Pokes a used block so that it says something else, mostly with the sum that goes with it. */
    private void rewrite() {
        if (model.isDown() || model.end() == model.start()) {
            return;
        }
        int number = random.nextInt(3) == 0 ? model.end() - 1 : model.start() + random.nextInt(model.end() - model.start());
        byte[] was = model.block(number);
        byte[] becomes = random.nextInt(8) == 0
                ? model.block(model.start() + random.nextInt(model.end() - model.start())) : was.clone();
        for (int changes = random.nextInt(3); changes >= 0; changes--) {
            alter(ByteBuffer.wrap(becomes), number);
        }
        if (random.nextInt(10) > 0) {
            ByteBuffer.wrap(becomes).putLong(56, Blocks.sum(becomes));
        }
        for (int i = 0; i < 64; i++) {
            if (was[i] != becomes[i] && calls < CALLS) {
                ask("poke", number, i, (was[i] ^ becomes[i]) & 0xFF);
            }
        }
    }

    private void alter(ByteBuffer block, int number) {
        switch (random.nextInt(8)) {
            case 0 -> block.put(0, (byte) (1 + random.nextInt(4)));
            case 1 -> block.put(1, (byte) BYTES[random.nextInt(BYTES.length)]);
            case 2 -> block.putInt(4, random.nextInt(3) == 0 ? number() : Math.max(1, version()));
            case 3 -> block.putInt(8 + 4 * random.nextInt(8), random.nextInt(4) == 0 ? number() : near());
            case 4 -> block.putInt(16, random.nextInt(4) == 0 ? number() : near());
            case 5 -> block.putInt(40, random.nextInt(4) == 0 ? number() : number + (random.nextInt(5) - 2) * model.slots());
            case 6 -> putFar(block, number % model.slots());
            default -> block.put(2 + random.nextInt(2), (byte) random.nextInt(256));
        }
    }

    /** Makes it a root about the greatest number that a whole one has in this slot. */
    private void putFar(ByteBuffer block, int slot) {
        int number = 1000000 - Math.floorMod(1000000 - slot, model.slots()) + random.nextInt(2) * model.slots();
        block.put(0, (byte) Blocks.ROOT).putInt(40, number).putInt(16, number - random.nextInt(model.slots() + 1));
    }

    private int number() {
        return NUMBERS[random.nextInt(NUMBERS.length)];
    }

    /** A number that a block could have here. */
    private int near() {
        return model.start() - 2 + random.nextInt(model.end() - model.start() + 4);
    }

    private int key() {
        return random.nextInt(leaves) * 8 + random.nextInt(8);
    }

    private int version() {
        return model.newest() - random.nextInt(4) + random.nextInt(2);
    }

    private int block() {
        return random.nextInt(3) == 0 ? model.end() - 1 : near();
    }

    private void ask(String call, int a, int b, int c) {
        calls++;
        if (model.isCut() && NAMING.contains(call)) {
            return;
        }
        String want = model.answer(call, a, b, c);
        String got = Calls.answer(x, call, a, b, c);
        told.add(call + "(" + a + ", " + b + ", " + c + ") " + got);
        if (!got.equals(want)) {
            told.forEach(System.out::println);
        }
        CHECK.due(told.getLast(), got, want);
    }
}
