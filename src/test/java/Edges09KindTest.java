/** The sentence of promise 9, at its bounds and one step to each side of them. */
public final class Edges09KindTest {
    private static final int BAD = ExtentFileTree.BAD;
    private static final int[] NO_HANDLE = {Integer.MIN_VALUE, -2, -1, 4, 5, Integer.MAX_VALUE};

    public static void main(String[] args) {
        Due due = new Due();
        hFrom0To3(due);
        whatEachHandleRefersTo(due);
        theKindOfThePresentState(due);
        due.end();
    }

    /** "BAD for h outside 0..3" */
    private static void hFrom0To3(Due due) {
        Edge at = new Edge(due, "a new object", x -> { });
        for (int h : NO_HANDLE) {
            at.keeps(BAD, x -> x.kind(h));
        }
        at.keeps(1, x -> x.kind(0));
        for (int h = 1; h <= 3; h++) {
            int handle = h;
            at.keeps(0, x -> x.kind(handle));
        }
    }

    /** "1 if handle h refers to a directory, 2 if to a file, 0 if to nothing" */
    private static void whatEachHandleRefersTo(Due due) {
        for (int h = 1; h <= 3; h++) {
            int handle = h;
            int other = h % 3 + 1;
            int third = other % 3 + 1;
            Edge at = new Edge(due, "handle " + h + " at a file, " + other + " at a directory", x -> {
                x.make(handle, 0, 0, false);
                x.make(other, 0, 1, true);
            });
            at.keeps(1, x -> x.kind(0));
            at.keeps(2, x -> x.kind(handle));
            at.keeps(1, x -> x.kind(other));
            at.keeps(0, x -> x.kind(third));
            due.is("kind of a handle at the top", at.changes(0, x -> x.open(third, 0, -1)).kind(third), 1);
            for (int when = 0; when <= 2; when++) {
                int time = when;
                RealTree x = at.changes(when == 1 ? 1 : 0, y -> y.crash(time));
                due.is("kind(0)", x.kind(0), 1);
                for (int any = 1; any <= 3; any++) {
                    due.is("kind(" + any + ") after a crash", x.kind(any), 0);
                }
            }
        }
        Edge blocks = new Edge(due, "a file with blocks, a directory with entries", x -> {
            x.make(1, 0, 0, true);
            x.make(2, 1, 1, false);
            x.write(2, 0, 1);
        });
        blocks.keeps(1, x -> x.kind(1));
        blocks.keeps(2, x -> x.kind(2));
    }

    private static void theKindOfThePresentState(Due due) {
        Edge at = new Edge(due, "a directory when saved, a file now", x -> {
            x.make(1, 0, 0, true);
            x.save();
            x.open(1, 0, -1);
            x.erase(0, 0);
            x.make(1, 0, 0, false);
        });
        at.keeps(2, x -> x.kind(1));
        RealTree x = at.changes(1, y -> y.crash(0));
        due.is("open(1, 0, 0)", x.open(1, 0, 0), 0);
        due.is("kind(1)", x.kind(1), 1);
    }
}
