import java.nio.ByteBuffer;
import java.util.ArrayList;
import java.util.Arrays;
import java.util.List;
import java.util.Map;
import java.util.Set;
import java.util.TreeMap;
import java.util.TreeSet;

/**
 * What the document says, told with the bytes of the slots alone: every page is read from them
 * whenever it is wanted, so blocks that say odd things with right sums are taken as they stand.
 */
final class ByteModel {
    /** A block on the way is BAD. */
    private static final class BadBlock extends RuntimeException {
        private static final long serialVersionUID = 1;

        BadBlock() {
            super(null, null, false, false);
        }
    }

    /** Which children a leaf, a node or the TOP has: by their places, 0 .. 7, values or blocks. */
    private static final class Page extends TreeMap<Integer, Integer> {
        private static final long serialVersionUID = 1;

        void set(int place, Integer child) {
            if (child == null) {
                remove(place);
            } else {
                put(place, child);
            }
        }
    }

    private final int slots;
    private final ByteBuffer[] roll;
    private final boolean[] torn;
    /** The roots of the kept versions, but for version 0. */
    private final TreeMap<Integer, Integer> kept = new TreeMap<>();
    /** The changes; null for a row that is dropped. */
    private final TreeMap<Integer, Integer> draft = new TreeMap<>();
    private int start;
    private int end;
    private int written;
    private int untilFailure = -1;
    private boolean down;
    private boolean cut;

    ByteModel(int wanted) {
        slots = Math.min(200, Math.max(16, wanted));
        roll = new ByteBuffer[slots];
        Arrays.setAll(roll, slot -> ByteBuffer.allocate(64));
        torn = new boolean[slots];
    }

    boolean isDown() {
        return down;
    }

    /** Which blocks are used and which versions kept between a cut and reopening is not said. */
    boolean isCut() {
        return cut;
    }

    int start() {
        return start;
    }

    int end() {
        return end;
    }

    int slots() {
        return slots;
    }

    int newest() {
        return kept.isEmpty() ? 0 : kept.lastKey();
    }

    /** A copy of a block's bytes. */
    byte[] block(int number) {
        return roll[number % slots].array().clone();
    }

    /** The answer of a call, or the name of the exception that it throws. */
    String answer(String call, int a, int b, int c) {
        if (isIllegal(call, a, b, c)) {
            return "IllegalArgumentException";
        }
        if (call.equals("isDown")) {
            return "" + down;
        }
        if (call.equals("reopen")) {
            return "" + reopen();
        }
        if (down) {
            return "IllegalStateException";
        }
        return switch (call) {
            case "put" -> "" + changed(a, b);
            case "drop" -> "" + changed(a, null);
            case "undo" -> "" + undo();
            case "get" -> "" + get(a);
            case "commit" -> "" + (draft.isEmpty() ? newest() : append(draft.keySet(), start));
            case "copy" -> "" + append(null, end);
            case "find" -> "" + find(a, b);
            case "next" -> "" + next(a, b);
            case "rows" -> "" + rows(a);
            case "kept" -> "" + kept(a);
            case "crash" -> crash(a);
            case "byteAt" -> "" + (roll[a % slots].get(b) & 0xFF);
            case "poke" -> "" + poke(a, b, c);
            case "badAt" -> "" + badAt(a);
            default -> "" + List.of(start, end, newest(), written, draft.size()).get(a);
        };
    }

    private boolean isIllegal(String call, int a, int b, int c) {
        return switch (call) {
            case "put", "drop", "get" -> a < 0 || a > 511;
            case "find", "next" -> !isKept(a) || b < 0 || b > 511;
            case "rows" -> !isKept(a);
            case "kept", "badAt" -> a < 0;
            case "crash" -> a < -1 || a > 100000;
            case "byteAt" -> !isUsed(a) || b < 0 || b > 63;
            case "poke" -> !isUsed(a) || b < 0 || b > 63 || c < 1 || c > 255;
            case "told" -> a < 0 || a > 4;
            default -> false;
        };
    }

    private boolean isKept(int version) {
        return version == 0 && start == 0 || kept.containsKey(version);
    }

    private boolean isUsed(int number) {
        return number >= start && number < end;
    }

    private int changed(int key, Integer value) {
        draft.put(key, value);
        return draft.size();
    }

    private int undo() {
        int had = draft.size();
        draft.clear();
        return had;
    }

    private String crash(int n) {
        untilFailure = n;
        down = n == 0;
        return "void";
    }

    private int poke(int number, int i, int mask) {
        ByteBuffer slot = roll[number % slots];
        slot.put(i, (byte) (slot.get(i) ^ mask));
        return slot.get(i) & 0xFF;
    }

    private boolean isSumRight(int slot) {
        return !torn[slot] && roll[slot].getLong(56) == Blocks.sum(roll[slot].array());
    }

    /** The block, if it is not BAD for its number and this kind. */
    private ByteBuffer sound(int number, int kind) {
        if (!isUsed(number) || !isSumRight(number % slots)) {
            throw new BadBlock();
        }
        ByteBuffer block = roll[number % slots];
        if (block.getInt(40) != number || block.get(0) != kind) {
            throw new BadBlock();
        }
        return block;
    }

    /** A page without a block is empty. */
    private Page page(Integer number, int kind) {
        Page page = new Page();
        if (number != null) {
            ByteBuffer block = sound(number, kind);
            for (int k = 0; k < 8; k++) {
                if ((block.get(1) >> k & 1) != 0) {
                    page.put(k, block.getInt(8 + 4 * k));
                }
            }
        }
        return page;
    }

    /** The TOP's block of the version with this root. */
    private Integer top(Integer root) {
        if (root == null) {
            return null;
        }
        ByteBuffer block = sound(root, 4);
        return (block.get(1) & 1) == 0 ? null : (Integer) block.getInt(8);
    }

    private Integer row(Integer root, int key) {
        Integer node = page(top(root), 3).get(key / 64);
        Integer leaf = page(node, 2).get(key / 8 % 8);
        return page(leaf, 1).get(key % 8);
    }

    private long find(int version, int key) {
        try {
            Integer row = row(kept.get(version), key);
            return row == null ? BookTrees.GONE : row;
        } catch (BadBlock e) {
            return BookTrees.BADLY;
        }
    }

    private long get(int key) {
        if (draft.containsKey(key)) {
            return draft.get(key) == null ? BookTrees.GONE : draft.get(key);
        }
        return find(newest(), key);
    }

    private int next(int version, int from) {
        for (int key = from; key < 512; key++) {
            long found = find(version, key);
            if (found != BookTrees.GONE) {
                return found == BookTrees.BADLY ? BookTrees.BAD : key;
            }
        }
        return BookTrees.NONE;
    }

    private int rows(int version) {
        try {
            return version == 0 ? 0 : sound(kept.get(version), 4).getInt(12);
        } catch (BadBlock e) {
            return BookTrees.BAD;
        }
    }

    private int kept(int k) {
        List<Integer> versions = new ArrayList<>(kept.descendingKeySet());
        if (isKept(0)) {
            versions.add(0);
        }
        return k < versions.size() ? versions.get(k) : BookTrees.NONE;
    }

    private int badAt(int k) {
        int left = k;
        for (int number = start; number < end; number++) {
            boolean sound = isSumRight(number % slots) && roll[number % slots].getInt(40) == number;
            if (!sound && left-- == 0) {
                return number;
            }
        }
        return BookTrees.NONE;
    }

    /** A commit of the keys of the draft, or without keys a copy. */
    private int append(Set<Integer> keys, int newStart) {
        boolean isCopy = keys == null;
        Integer root = kept.get(newest());
        Page top;
        TreeMap<Integer, Page> nodes = new TreeMap<>();
        TreeMap<Integer, Page> leaves = new TreeMap<>();
        int rows = 0;
        try {
            top = page(top(root), 3);
            rows = root == null ? 0 : sound(root, 4).getInt(12);
            for (int leaf : leavesOf(keys)) {
                Page node = nodes.get(leaf / 8);
                if (node == null) {
                    node = page(top.get(leaf / 8), 2);
                    nodes.put(leaf / 8, node);
                }
                leaves.put(leaf, page(node.get(leaf % 8), 1));
            }
        } catch (BadBlock e) {
            return BookTrees.BAD;
        }
        if (!isCopy) {
            for (Map.Entry<Integer, Integer> change : draft.entrySet()) {
                Page leaf = leaves.get(change.getKey() / 8);
                rows -= leaf.size();
                leaf.set(change.getKey() % 8, change.getValue());
                rows += leaf.size();
            }
        }
        int answer = written(images(top, nodes, leaves, rows, newStart), newStart);
        if (answer > 0 && !isCopy) {
            draft.clear();
        }
        return answer;
    }

    private static Set<Integer> leavesOf(Set<Integer> keys) {
        Set<Integer> leaves = new TreeSet<>();
        for (int key = 0; key < 512; key++) {
            if (keys == null || keys.contains(key)) {
                leaves.add(key / 8);
            }
        }
        return leaves;
    }

    /** The blocks to be written, in their order; the pages learn where those below them will lie. */
    private List<byte[]> images(Page top, TreeMap<Integer, Page> nodes, TreeMap<Integer, Page> leaves, int rows, int newStart) {
        List<byte[]> images = new ArrayList<>();
        leaves.forEach((leaf, page) -> nodes.get(leaf / 8).set(leaf % 8, placed(images, 1, page)));
        nodes.forEach((node, page) -> top.set(node, placed(images, 2, page)));
        Integer topBlock = placed(images, 3, top);
        int bits = topBlock == null ? 0 : 1;
        images.add(Blocks.image(4, bits, newest() + 1, end + images.size(), bits == 0 ? 0 : topBlock, rows, newStart));
        return images;
    }

    /** Where a page will lie; null if it has nothing and is not written. */
    private Integer placed(List<byte[]> images, int kind, Page page) {
        if (page.isEmpty()) {
            return null;
        }
        int bits = 0;
        int[] entries = new int[8];
        for (Map.Entry<Integer, Integer> child : page.entrySet()) {
            bits |= 1 << child.getKey();
            entries[child.getKey()] = child.getValue();
        }
        int number = end + images.size();
        images.add(Blocks.image(kind, bits, newest() + 1, number, entries));
        return number;
    }

    private int written(List<byte[]> images, int newStart) {
        if (end + images.size() - start > slots) {
            return BookTrees.FULL;
        }
        int version = newest() + 1;
        for (int i = 0; i < images.size(); i++) {
            for (int at = 0; at < 64; at++) {
                int slot = (end + i) % slots;
                roll[slot].put(at, images.get(i)[at]);
                torn[slot] = at < 63;
                written++;
                untilFailure -= untilFailure == -1 ? 0 : 1;
                if (untilFailure == 0) {
                    down = true;
                    cut = true;
                    return BookTrees.CUT;
                }
            }
        }
        start = newStart;
        end += images.size();
        kept.put(version, end - 1);
        kept.values().removeIf(root -> root < start);
        return version;
    }

    private boolean isWholeRoot(int slot) {
        ByteBuffer block = roll[slot];
        int number = block.getInt(40);
        int version = block.getInt(4);
        int from = block.getInt(16);
        return isSumRight(slot) && block.get(0) == 4
                && 0 <= number && number <= 1000000 && number % slots == slot
                && 1 <= version && version <= 1000000
                && 0 <= from && from <= number && from > number - slots;
    }

    private int reopen() {
        down = false;
        cut = false;
        untilFailure = -1;
        draft.clear();
        kept.clear();
        start = 0;
        end = 0;
        List<ByteBuffer> roots = new ArrayList<>();
        for (int slot = 0; slot < slots; slot++) {
            if (isWholeRoot(slot)) {
                roots.add(roll[slot]);
            }
        }
        roots.sort((one, other) -> one.getInt(4) != other.getInt(4)
                ? Integer.compare(one.getInt(4), other.getInt(4)) : Integer.compare(one.getInt(40), other.getInt(40)));
        if (!roots.isEmpty()) {
            ByteBuffer newest = roots.get(roots.size() - 1);
            start = newest.getInt(16);
            end = newest.getInt(40) + 1;
            roots.stream().filter(root -> isUsed(root.getInt(40))).forEach(root -> kept.put(root.getInt(4), root.getInt(40)));
        }
        return newest();
    }
}
