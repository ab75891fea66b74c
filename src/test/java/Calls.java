/** Calls of the face by their names. */
final class Calls {
    private Calls() {
    }

    /** The answer of a call, or the name of the exception that it throws; what a call does not take is left out. */
    static String answer(BookTrees x, String call, int a, int b, int c) {
        String[] answer = {""};
        String thrown = Check.thrown(() -> answer[0] = called(x, call, a, b, c));
        return thrown.equals("nothing") ? answer[0] : thrown;
    }

    private static String called(BookTrees x, String call, int a, int b, int c) {
        switch (call) {
            case "put":
                return "" + x.put(a, b);
            case "drop":
                return "" + x.drop(a);
            case "undo":
                return "" + x.undo();
            case "get":
                return "" + x.get(a);
            case "commit":
                return "" + x.commit();
            case "copy":
                return "" + x.copy();
            case "find":
                return "" + x.find(a, b);
            case "next":
                return "" + x.next(a, b);
            case "rows":
                return "" + x.rows(a);
            case "kept":
                return "" + x.kept(a);
            case "crash":
                x.crash(a);
                return "void";
            case "reopen":
                return "" + x.reopen();
            case "isDown":
                return "" + x.isDown();
            case "byteAt":
                return "" + x.byteAt(a, b);
            case "poke":
                return "" + x.poke(a, b, c);
            case "badAt":
                return "" + x.badAt(a);
            case "told":
                return "" + x.told(a);
            default:
                return "there is no such call";
        }
    }
}
