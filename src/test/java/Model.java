import java.util.ArrayList;
import java.util.Arrays;
import java.util.List;
import java.util.Map;
import java.util.TreeMap;

/**
 * What the document says, told with maps: a block is remembered as it was written, and it is
 * bad as soon as its bytes are others, so no sum is ever looked at. That holds as long as
 * nobody mends a sum by pokes.
 */
final class Model {
    static final String ARGUMENT = "IllegalArgumentException";
    static final String STATE = "IllegalStateException";

    /** What was written as a block. */
    private static final class Block {
        int number;
        int kind;
        byte[] image;
        Tree tree;
        int version;
        int start;
    }

    /** The rows of a version, and in which blocks its pages lie. */
    private static final class Tree {
        final TreeMap<Integer, Integer> rows = new TreeMap<>();
        final TreeMap<Integer, Integer> leaves = new TreeMap<>();
        final TreeMap<Integer, Integer> nodes = new TreeMap<>();
        int top;

        Tree copy() {
            Tree other = new Tree();
            other.rows.putAll(rows);
            other.leaves.putAll(leaves);
            other.nodes.putAll(nodes);
            other.top = top;
            return other;
        }

        boolean hasRowsIn(int from, int upTo) {
            return !rows.subMap(from, upTo).isEmpty();
        }
    }

    private final int slots;
    private final byte[][] bytes;
    private final Block[] blocks;
    private final TreeMap<Integer, Block> kept = new TreeMap<>();
    private final TreeMap<Integer, Integer> put = new TreeMap<>();
    private final TreeMap<Integer, Boolean> dropped = new TreeMap<>();
    private int start;
    private int end;
    private int written;
    private int left = -1;
    private boolean down;
    private boolean cut;

    Model(int blocks) {
        slots = blocks < 16 ? 16 : blocks > 200 ? 200 : blocks;
        bytes = new byte[slots][64];
        this.blocks = new Block[slots];
    }

    boolean isDown() {
        return down;
    }

    /** Which blocks are used and which versions kept between a cut and reopening is not said. */
    boolean isCut() {
        return cut;
    }

    int newest() {
        return kept.isEmpty() ? 0 : kept.lastKey();
    }

    int end() {
        return end;
    }

    int start() {
        return start;
    }

    /** The answer of a call, or the name of the exception that it throws. */
    String answer(String call, int a, int b, int c) {
        if (!isLegal(call, a, b, c)) {
            return ARGUMENT;
        }
        if (down && !call.equals("reopen") && !call.equals("isDown")) {
            return STATE;
        }
        switch (call) {
            case "put":
                dropped.remove(a);
                put.put(a, b);
                return "" + draftSize();
            case "drop":
                put.remove(a);
                dropped.put(a, true);
                return "" + draftSize();
            case "undo":
                return "" + emptied();
            case "get":
                return "" + (put.containsKey(a) ? (long) put.get(a)
                        : dropped.containsKey(a) ? BookTrees.GONE : row(newest(), a));
            case "commit":
                return "" + commit();
            case "copy":
                return "" + copy();
            case "find":
                return "" + row(a, b);
            case "next":
                return "" + next(a, b);
            case "rows":
                return "" + (a == 0 ? 0 : isBad(kept.get(a).number, 4) ? BookTrees.BAD : kept.get(a).tree.rows.size());
            case "kept":
                return "" + kept(a);
            case "crash":
                left = a;
                down = a == 0;
                return "void";
            case "reopen":
                return "" + reopen();
            case "isDown":
                return "" + down;
            case "byteAt":
                return "" + (bytes[a % slots][b] & 0xFF);
            case "poke":
                bytes[a % slots][b] ^= (byte) c;
                return "" + (bytes[a % slots][b] & 0xFF);
            case "badAt":
                return "" + badAt(a);
            default:
                return "" + new int[] {start, end, newest(), written, draftSize()}[a];
        }
    }

    private boolean isLegal(String call, int a, int b, int c) {
        switch (call) {
            case "put", "drop", "get":
                return isKey(a);
            case "find", "next":
                return isKept(a) && isKey(b);
            case "rows":
                return isKept(a);
            case "kept", "badAt":
                return a >= 0;
            case "crash":
                return a >= -1 && a <= 100000;
            case "byteAt":
                return isUsed(a) && b >= 0 && b <= 63;
            case "poke":
                return isUsed(a) && b >= 0 && b <= 63 && c >= 1 && c <= 255;
            case "told":
                return a >= 0 && a <= 4;
            default:
                return true;
        }
    }

    private static boolean isKey(int key) {
        return key >= 0 && key <= 511;
    }

    private boolean isKept(int version) {
        return version == 0 ? start == 0 : kept.containsKey(version);
    }

    private boolean isUsed(int block) {
        return start <= block && block < end;
    }

    private int draftSize() {
        return put.size() + dropped.size();
    }

    private int emptied() {
        int had = draftSize();
        put.clear();
        dropped.clear();
        return had;
    }

    /** A slot has its block whole if nothing was altered in it; a torn slot has none. */
    private boolean isWhole(int slot) {
        return blocks[slot] != null && Arrays.equals(bytes[slot], blocks[slot].image);
    }

    private boolean isBad(int number, int kind) {
        if (!isUsed(number) || !isWhole(number % slots)) {
            return true;
        }
        Block block = blocks[number % slots];
        return block.number != number || block.kind != kind;
    }

    private long row(int version, int key) {
        if (version == 0) {
            return BookTrees.GONE;
        }
        Block root = kept.get(version);
        if (isBad(root.number, 4)) {
            return BookTrees.BADLY;
        }
        Tree tree = root.tree;
        if (tree.rows.isEmpty()) {
            return BookTrees.GONE;
        }
        if (isBad(tree.top, 3)) {
            return BookTrees.BADLY;
        }
        Integer node = tree.nodes.get(key / 64);
        if (node == null) {
            return BookTrees.GONE;
        }
        if (isBad(node, 2)) {
            return BookTrees.BADLY;
        }
        Integer leaf = tree.leaves.get(key / 8);
        if (leaf == null) {
            return BookTrees.GONE;
        }
        if (isBad(leaf, 1)) {
            return BookTrees.BADLY;
        }
        return tree.rows.containsKey(key) ? (long) tree.rows.get(key) : BookTrees.GONE;
    }

    private int next(int version, int from) {
        for (int key = from; key <= 511; key++) {
            long answer = row(version, key);
            if (answer == BookTrees.BADLY) {
                return BookTrees.BAD;
            }
            if (answer != BookTrees.GONE) {
                return key;
            }
        }
        return BookTrees.NONE;
    }

    private int kept(int k) {
        List<Integer> versions = new ArrayList<>(kept.descendingKeySet());
        if (start == 0) {
            versions.add(0);
        }
        return k < versions.size() ? versions.get(k) : BookTrees.NONE;
    }

    private int badAt(int k) {
        List<Integer> bad = new ArrayList<>();
        for (int number = start; number < end; number++) {
            if (!isWhole(number % slots) || blocks[number % slots].number != number) {
                bad.add(number);
            }
        }
        return k < bad.size() ? bad.get(k) : BookTrees.NONE;
    }

    private int commit() {
        if (draftSize() == 0) {
            return newest();
        }
        List<Integer> keys = new ArrayList<>(put.keySet());
        keys.addAll(dropped.keySet());
        for (int key : keys) {
            if (row(newest(), key) == BookTrees.BADLY) {
                return BookTrees.BAD;
            }
        }
        Tree tree = kept.isEmpty() ? new Tree() : kept.lastEntry().getValue().tree.copy();
        tree.rows.putAll(put);
        tree.rows.keySet().removeAll(dropped.keySet());
        TreeMap<Integer, Boolean> changed = new TreeMap<>();
        keys.forEach(key -> changed.put(key / 8, true));
        int answer = append(tree, changed, start);
        if (answer > 0) {
            emptied();
        }
        return answer;
    }

    private int copy() {
        TreeMap<Integer, Boolean> all = new TreeMap<>();
        for (int key = 0; key <= 511; key++) {
            if (row(newest(), key) == BookTrees.BADLY) {
                return BookTrees.BAD;
            }
            all.put(key / 8, true);
        }
        return append(kept.isEmpty() ? new Tree() : kept.lastEntry().getValue().tree.copy(), all, end);
    }

    private int append(Tree tree, TreeMap<Integer, Boolean> changed, int newStart) {
        List<Block> fresh = new ArrayList<>();
        TreeMap<Integer, Boolean> over = new TreeMap<>();
        for (int leaf : changed.keySet()) {
            over.put(leaf / 8, true);
            tree.leaves.remove(leaf);
            if (tree.hasRowsIn(8 * leaf, 8 * leaf + 8)) {
                tree.leaves.put(leaf, add(fresh, 1));
            }
        }
        for (int node : over.keySet()) {
            tree.nodes.remove(node);
            if (tree.hasRowsIn(64 * node, 64 * node + 64)) {
                tree.nodes.put(node, add(fresh, 2));
            }
        }
        tree.top = tree.rows.isEmpty() ? 0 : add(fresh, 3);
        int rootNumber = add(fresh, 4);
        if (end - start + fresh.size() > slots) {
            return BookTrees.FULL;
        }
        int version = newest() + 1;
        for (Block block : fresh) {
            block.tree = tree;
            block.version = version;
            block.start = newStart;
            block.image = image(block);
        }
        for (Block block : fresh) {
            if (!write(block)) {
                cut = true;
                return BookTrees.CUT;
            }
        }
        start = newStart;
        end = rootNumber + 1;
        kept.values().removeIf(root -> root.number < start);
        kept.put(version, fresh.get(fresh.size() - 1));
        return version;
    }

    private int add(List<Block> fresh, int kind) {
        Block block = new Block();
        block.kind = kind;
        block.number = end + fresh.size();
        fresh.add(block);
        return block.number;
    }

    private static byte[] image(Block block) {
        Tree tree = block.tree;
        if (block.kind == 4) {
            int bits = tree.rows.isEmpty() ? 0 : 1;
            return Blocks.image(4, bits, block.version, block.number, tree.top, tree.rows.size(), block.start);
        }
        Map<Integer, Integer> children = block.kind == 3 ? tree.nodes : block.kind == 2 ? tree.leaves : tree.rows;
        int first = 0;
        if (block.kind < 3) {
            Map<Integer, Integer> siblings = block.kind == 2 ? tree.nodes : tree.leaves;
            for (Map.Entry<Integer, Integer> entry : siblings.entrySet()) {
                first = entry.getValue() == block.number ? 8 * entry.getKey() : first;
            }
        }
        int bits = 0;
        int[] entries = new int[8];
        for (int k = 0; k < 8; k++) {
            if (children.containsKey(first + k)) {
                bits |= 1 << k;
                entries[k] = children.get(first + k);
            }
        }
        return Blocks.image(block.kind, bits, block.version, block.number, entries);
    }

    private boolean write(Block block) {
        int slot = block.number % slots;
        for (int i = 0; i < 64; i++) {
            bytes[slot][i] = block.image[i];
            blocks[slot] = i == 63 ? block : null;
            written++;
            if (left > 0) {
                left--;
                if (left == 0) {
                    down = true;
                    return false;
                }
            }
        }
        return true;
    }

    private int reopen() {
        down = false;
        cut = false;
        left = -1;
        emptied();
        kept.clear();
        Block newest = null;
        for (int slot = 0; slot < slots; slot++) {
            if (isWhole(slot) && blocks[slot].kind == 4 && (newest == null
                    || blocks[slot].version > newest.version
                    || blocks[slot].version == newest.version && blocks[slot].number > newest.number)) {
                newest = blocks[slot];
            }
        }
        start = newest == null ? 0 : newest.start;
        end = newest == null ? 0 : newest.number + 1;
        for (int number = start; number < end; number++) {
            if (!isBad(number, 4)) {
                kept.put(blocks[number % slots].version, blocks[number % slots]);
            }
        }
        return newest();
    }
}
