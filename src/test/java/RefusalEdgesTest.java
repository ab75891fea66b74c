import java.util.ArrayList;
import java.util.List;
import java.util.function.Consumer;

/** The edges of what is refused: each call with each argument just within and just out of its bounds. */
public final class RefusalEdgesTest {
    private static final Check CHECK = new Check("RefusalEdgesTest");

    /** A call with its arguments, of which it is known whether they are legal. */
    private record Asked(String name, Consumer<BookTrees> call) {
    }

    private static final List<Asked> LEGAL = new ArrayList<>();
    private static final List<Asked> ILLEGAL = new ArrayList<>();

    public static void main(String[] args) {
        keys();
        versions();
        blocks();
        otherNumbers();
        CHECK.of("illegal argument: a number is out of its bounds, a version is not kept, a block not used",
                RefusalEdgesTest::illegalArguments);
        CHECK.of("illegal argument: what is within its bounds is not", RefusalEdgesTest::legalArguments);
        CHECK.of("a version is not kept: beside a copy, behind a reopening", RefusalEdgesTest::versionsComeAndGo);
        CHECK.of("a block not used: beside a copy, behind a reopening", RefusalEdgesTest::blocksComeAndGo);
        CHECK.of("Illegal state: the power failed: at once", RefusalEdgesTest::illegalState);
        CHECK.of("Illegal state: the power failed: within a commit", RefusalEdgesTest::illegalStateBehindACut);
        CHECK.of("Illegal state: reopen() and isDown() answer all the same", RefusalEdgesTest::neverRefused);
        CHECK.of("Of several exceptions the one named first is thrown", RefusalEdgesTest::argumentFirst);
        CHECK.of("a call that throws changes nothing: illegal argument", RefusalEdgesTest::argumentChangesNothing);
        CHECK.of("a call that throws changes nothing: illegal state", RefusalEdgesTest::stateChangesNothing);
        CHECK.of("a call that throws changes nothing: what crash() said", RefusalEdgesTest::crashStays);
        CHECK.end();
    }

    /** Versions 4 and 5 are kept, blocks 3 .. 7 used: a copy without rows in 3, then row 0 as 5; key 9 is in the draft. */
    private static BookTrees made() {
        BookTrees x = Rolls.copies(16, 4);
        x.put(0, 5);
        x.commit();
        x.put(9, 6);
        return x;
    }

    private static void legal(String name, Consumer<BookTrees> call) {
        LEGAL.add(new Asked(name, call));
    }

    private static void illegal(String name, Consumer<BookTrees> call) {
        ILLEGAL.add(new Asked(name, call));
    }

    private static void keys() {
        for (int key : new int[] {0, 511}) {
            legal("put(" + key + ", 1)", x -> x.put(key, 1));
            legal("drop(" + key + ")", x -> x.drop(key));
            legal("get(" + key + ")", x -> x.get(key));
            legal("find(5, " + key + ")", x -> x.find(5, key));
            legal("next(5, " + key + ")", x -> x.next(5, key));
        }
        for (int key : new int[] {-1, 512, -512, 1024, Integer.MIN_VALUE, Integer.MAX_VALUE}) {
            illegal("put(" + key + ", 1)", x -> x.put(key, 1));
            illegal("drop(" + key + ")", x -> x.drop(key));
            illegal("get(" + key + ")", x -> x.get(key));
            illegal("find(5, " + key + ")", x -> x.find(5, key));
            illegal("next(5, " + key + ")", x -> x.next(5, key));
        }
    }

    private static void versions() {
        for (int version : new int[] {4, 5}) {
            legal("find(" + version + ", 0)", x -> x.find(version, 0));
            legal("next(" + version + ", 0)", x -> x.next(version, 0));
            legal("rows(" + version + ")", x -> x.rows(version));
        }
        for (int version : new int[] {3, 6, 0, 1, -1, Integer.MIN_VALUE, Integer.MAX_VALUE}) {
            illegal("find(" + version + ", 0)", x -> x.find(version, 0));
            illegal("next(" + version + ", 0)", x -> x.next(version, 0));
            illegal("rows(" + version + ")", x -> x.rows(version));
        }
    }

    private static void blocks() {
        for (int block : new int[] {3, 7}) {
            legal("byteAt(" + block + ", 0)", x -> x.byteAt(block, 0));
            legal("byteAt(" + block + ", 63)", x -> x.byteAt(block, 63));
            legal("poke(" + block + ", 0, 1)", x -> x.poke(block, 0, 1));
            legal("poke(" + block + ", 63, 255)", x -> x.poke(block, 63, 255));
        }
        // 19 and -13 lie in the slot of block 3.
        for (int block : new int[] {2, 8, 0, -1, 19, -13, Integer.MIN_VALUE, Integer.MAX_VALUE}) {
            illegal("byteAt(" + block + ", 0)", x -> x.byteAt(block, 0));
            illegal("poke(" + block + ", 0, 1)", x -> x.poke(block, 0, 1));
        }
        for (int i : new int[] {-1, 64, -64, Integer.MIN_VALUE, Integer.MAX_VALUE}) {
            illegal("byteAt(4, " + i + ")", x -> x.byteAt(4, i));
            illegal("poke(4, " + i + ", 1)", x -> x.poke(4, i, 1));
        }
        for (int mask : new int[] {0, 256, -1, -255, Integer.MIN_VALUE, Integer.MAX_VALUE}) {
            illegal("poke(4, 0, " + mask + ")", x -> x.poke(4, 0, mask));
        }
    }

    private static void otherNumbers() {
        for (int k : new int[] {0, 1, Integer.MAX_VALUE}) {
            legal("kept(" + k + ")", x -> x.kept(k));
            legal("badAt(" + k + ")", x -> x.badAt(k));
        }
        for (int k : new int[] {-1, Integer.MIN_VALUE}) {
            illegal("kept(" + k + ")", x -> x.kept(k));
            illegal("badAt(" + k + ")", x -> x.badAt(k));
        }
        for (int n : new int[] {-1, 0, 1, 100000}) {
            legal("crash(" + n + ")", x -> x.crash(n));
        }
        for (int n : new int[] {-2, 100001, Integer.MIN_VALUE, Integer.MAX_VALUE}) {
            illegal("crash(" + n + ")", x -> x.crash(n));
        }
        for (int what = 0; what <= 4; what++) {
            int asked = what;
            legal("told(" + what + ")", x -> x.told(asked));
        }
        for (int what : new int[] {-1, 5, Integer.MIN_VALUE, Integer.MAX_VALUE}) {
            illegal("told(" + what + ")", x -> x.told(what));
        }
        legal("undo()", BookTrees::undo);
        legal("commit()", BookTrees::commit);
        legal("copy()", BookTrees::copy);
    }

    private static void illegalArguments() {
        for (Asked asked : ILLEGAL) {
            BookTrees x = made();
            CHECK.argument(asked.name, () -> asked.call.accept(x));
        }
    }

    private static void legalArguments() {
        for (Asked asked : LEGAL) {
            BookTrees x = made();
            CHECK.due(asked.name + " throws", Check.thrown(() -> asked.call.accept(x)), "nothing");
        }
    }

    private static void versionsComeAndGo() {
        BookTrees x = Rolls.roots(16, 2);
        CHECK.argument("rows(3) before its commit", () -> x.rows(3));
        x.drop(0);
        CHECK.argument("rows(3) in the draft", () -> x.rows(3));
        x.commit();
        CHECK.due("rows(3)", x.rows(3), 0);
        CHECK.due("rows(1)", x.rows(1), 0);
        x.poke(2, 63, 1);
        CHECK.due("rows(3), kept though bad", x.rows(3), BookTrees.BAD);
        x.reopen();
        CHECK.argument("rows(3) reopened", () -> x.rows(3));
        CHECK.due("rows(2)", x.rows(2), 0);
        x.copy();
        CHECK.due("rows(3), a copy", x.rows(3), 0);
        CHECK.argument("rows(2) behind a copy", () -> x.rows(2));
        CHECK.argument("rows(0) behind a copy", () -> x.rows(0));
    }

    private static void blocksComeAndGo() {
        BookTrees x = Rolls.roots(16, 2);
        CHECK.argument("byteAt(2, 0) before it is written", () -> x.byteAt(2, 0));
        Rolls.addRoots(x, 1);
        CHECK.due("byteAt(2, 0)", x.byteAt(2, 0), Blocks.ROOT);
        x.poke(2, 63, 1);
        CHECK.due("byteAt(2, 0), used though bad", x.byteAt(2, 0), Blocks.ROOT);
        x.reopen();
        CHECK.argument("byteAt(2, 0) reopened", () -> x.byteAt(2, 0));
        CHECK.argument("poke(2, 0, 1) reopened", () -> x.poke(2, 0, 1));
        x.copy();
        CHECK.due("byteAt(2, 0), a copy", x.byteAt(2, 0), Blocks.ROOT);
        CHECK.argument("byteAt(1, 0) behind a copy", () -> x.byteAt(1, 0));
        CHECK.argument("poke(1, 0, 1) behind a copy", () -> x.poke(1, 0, 1));
    }

    private static void illegalState() {
        for (Asked asked : LEGAL) {
            BookTrees x = made();
            x.crash(0);
            CHECK.state(asked.name, () -> asked.call.accept(x));
        }
    }

    /** What blocks and versions there are behind a cut is not said, so just calls without them. */
    private static void illegalStateBehindACut() {
        for (Asked asked : LEGAL) {
            if (asked.name.matches("(put|drop|undo|get|commit|copy|kept|crash|badAt|told).*")) {
                BookTrees x = made();
                x.crash(100);
                CHECK.due("commit()", x.commit(), BookTrees.CUT);
                CHECK.state(asked.name, () -> asked.call.accept(x));
            }
        }
    }

    private static void neverRefused() {
        BookTrees x = made();
        x.crash(0);
        CHECK.due("isDown()", x.isDown(), true);
        CHECK.due("reopen()", x.reopen(), 5);
        CHECK.due("isDown()", x.isDown(), false);
        CHECK.due("reopen() again", x.reopen(), 5);
    }

    private static void argumentFirst() {
        for (Asked asked : ILLEGAL) {
            BookTrees x = made();
            x.crash(0);
            CHECK.argument(asked.name + " without power", () -> asked.call.accept(x));
        }
    }

    private static void argumentChangesNothing() {
        String before = Rolls.state(made());
        for (Asked asked : ILLEGAL) {
            BookTrees x = made();
            Check.thrown(() -> asked.call.accept(x));
            CHECK.due("all behind " + asked.name, Rolls.state(x), before);
        }
    }

    private static void stateChangesNothing() {
        BookTrees twin = made();
        twin.crash(0);
        twin.reopen();
        String after = Rolls.state(twin);
        List<Asked> all = new ArrayList<>(LEGAL);
        all.addAll(ILLEGAL);
        for (Asked asked : all) {
            BookTrees x = made();
            x.crash(0);
            Check.thrown(() -> asked.call.accept(x));
            CHECK.due("isDown() behind " + asked.name, x.isDown(), true);
            CHECK.due("reopen() behind " + asked.name, x.reopen(), 5);
            CHECK.due("all reopened behind " + asked.name, Rolls.state(x), after);
        }
    }

    private static void crashStays() {
        for (Asked asked : ILLEGAL) {
            BookTrees x = made();
            x.crash(257);
            Check.thrown(() -> asked.call.accept(x));
            CHECK.due("isDown() behind " + asked.name, x.isDown(), false);
            x.undo();
            x.put(0, 6);
            CHECK.due("commit() of 256 with 257 behind " + asked.name, x.commit(), 6);
            x.put(0, 7);
            CHECK.due("commit() with 1 behind " + asked.name, x.commit(), BookTrees.CUT);
        }
    }
}
