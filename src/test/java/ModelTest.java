import java.util.ArrayDeque;
import java.util.Deque;
import java.util.Random;
import java.util.Set;

/** All promises: long mixed runs, each answer against the model's. */
public final class ModelTest {
    private static final Check CHECK = new Check("ModelTest");
    private static final int RUNS = 4000;
    private static final int CALLS = 512;
    private static final int[] SIZES = {16, 16, 17, 20, 24, 30, 40, 64, 100, 200};
    /** The calls that name a version or a block. */
    private static final Set<String> NAMING = Set.of("find", "next", "rows", "byteAt", "poke");
    private static final int[] ODD = {-1, -2, 0, 1, 63, 64, 255, 256, 511, 512, Integer.MIN_VALUE, Integer.MAX_VALUE};

    private final Random random;
    private final BookTrees x;
    private final Model model;
    private final Deque<String> last = new ArrayDeque<>();
    private final int leaves;
    private int pokedBlock;
    private int pokedByte;
    private int pokedMask;

    private ModelTest(int seed) {
        random = new Random(seed);
        int size = SIZES[random.nextInt(SIZES.length)];
        leaves = 1 + random.nextInt(random.nextBoolean() ? 4 : 64);
        x = new BookTrees(size);
        model = new Model(size);
        last.add("run " + seed + ": new BookTrees(" + size + ")");
    }

    public static void main(String[] args) {
        for (int seed = 0; seed < RUNS && CHECK.isClean(); seed++) {
            ModelTest run = new ModelTest(seed);
            for (int i = 0; i < CALLS && CHECK.isClean(); i++) {
                run.step();
            }
        }
        CHECK.end();
    }

    private void step() {
        if (model.isDown() && random.nextInt(3) == 0) {
            ask("reopen", 0, 0, 0);
            return;
        }
        int dice = random.nextInt(100);
        if (dice < 22) {
            ask("put", key(), random.nextInt(), 0);
        } else if (dice < 32) {
            ask("drop", key(), 0, 0);
        } else if (dice < 33) {
            ask("undo", 0, 0, 0);
        } else if (dice < 49) {
            ask("commit", 0, 0, 0);
        } else if (dice < 54) {
            ask("copy", 0, 0, 0);
        } else if (dice < 56) {
            ask("reopen", 0, 0, 0);
        } else if (dice < 58) {
            ask("crash", random.nextInt(8) == 0 ? odd() : random.nextInt(900) - 1, 0, 0);
        } else if (dice < 62) {
            poke();
        } else {
            look(random.nextInt(9));
        }
    }

    private void look(int which) {
        switch (which) {
            case 0 -> ask("get", key(), 0, 0);
            case 1 -> ask("find", version(), key(), 0);
            case 2 -> ask("next", version(), key(), 0);
            case 3 -> ask("rows", version(), 0, 0);
            case 4 -> ask("kept", random.nextInt(8) == 0 ? odd() : random.nextInt(6), 0, 0);
            case 5 -> ask("isDown", 0, 0, 0);
            case 6 -> ask("byteAt", block(), random.nextInt(20) == 0 ? odd() : random.nextInt(64), 0);
            case 7 -> ask("badAt", random.nextInt(8) == 0 ? odd() : random.nextInt(4), 0, 0);
            default -> ask("told", random.nextInt(20) == 0 ? odd() : random.nextInt(5), 0, 0);
        }
    }

    /** Half of the pokes take the last one back, so that blocks become right again. */
    private void poke() {
        if (pokedMask == 0 || random.nextBoolean()) {
            pokedBlock = random.nextInt(3) == 0 ? model.end() - 1 : block();
            pokedByte = random.nextInt(20) == 0 ? odd() : random.nextInt(64);
            pokedMask = random.nextInt(20) == 0 ? odd() : 1 + random.nextInt(255);
        }
        ask("poke", pokedBlock, pokedByte, pokedMask);
    }

    private int key() {
        return random.nextInt(40) == 0 ? odd() : random.nextInt(leaves) * 8 % 512 + random.nextInt(8);
    }

    private int version() {
        return random.nextInt(20) == 0 ? odd() : model.newest() - random.nextInt(5) + random.nextInt(2);
    }

    private int block() {
        int used = model.end() - model.start();
        return random.nextInt(20) == 0 ? odd() : model.start() - 1 + random.nextInt(used + 2);
    }

    private int odd() {
        return ODD[random.nextInt(ODD.length)];
    }

    private void ask(String call, int a, int b, int c) {
        if (model.isCut() && NAMING.contains(call)) {
            return;
        }
        String told = call + "(" + a + ", " + b + ", " + c + ")";
        String want = model.answer(call, a, b, c);
        String got = Calls.answer(x, call, a, b, c);
        last.add(told + " " + got);
        if (!got.equals(want)) {
            last.forEach(System.out::println);
        }
        CHECK.due(told, got, want);
    }
}
