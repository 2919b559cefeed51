public final class Promise03MakeTest {
    private static final int BAD = ExtentFileTree.BAD;
    private static final int FULL = ExtentFileTree.FULL;
    private static final int NOTHING = ExtentFileTree.NOTHING;
    private static final int WRONG = ExtentFileTree.WRONG;
    private static final int THERE = ExtentFileTree.THERE;

    public static void main(String[] args) {
        Due due = new Due();
        makesBothKinds(due);
        aNewFileIsEmptyAfterAnErasedOne(due);
        refusesInOrder(due);
        sixteenNodesAtMost(due);
        savedNodesTakeNoRoom(due);
        due.end();
    }

    private static void makesBothKinds(Due due) {
        ExtentFileTree x = new ExtentFileTree();
        due.is("make(1, 0, 0, true)", x.make(1, 0, 0, true), 0);
        due.is("kind(1)", x.kind(1), 1);
        due.is("size(1)", x.size(1), 0);
        due.is("make(3, 1, 99, false)", x.make(3, 1, 99, false), 0);
        due.is("kind(3)", x.kind(3), 2);
        due.is("size(3)", x.size(3), 0);
        due.is("copies()", x.copies(), 0);
        due.is("size(1)", x.size(1), 1);
        due.is("size(0)", x.size(0), 1);
        due.is("make(1, 1, 0, true)", x.make(1, 1, 0, true), 0);
        due.is("size(1)", x.size(1), 0);
        due.is("nodes()", x.nodes(), 4);
        due.is("open(2, 0, 0)", x.open(2, 0, 0), 0);
        due.is("next(2, -1)", x.next(2, -1), 0);
        due.is("next(2, 0)", x.next(2, 0), 99);
    }

    private static void aNewFileIsEmptyAfterAnErasedOne(Due due) {
        ExtentFileTree x = new ExtentFileTree();
        x.make(1, 0, 0, false);
        x.write(1, 0, 7);
        x.write(1, 30, 8);
        x.open(1, 0, -1);
        x.erase(0, 0);
        due.is("make(1, 0, 0, false)", x.make(1, 0, 0, false), 0);
        due.is("size(1)", x.size(1), 0);
        due.is("read(1, 0)", x.read(1, 0), 0);
        due.is("read(1, 30)", x.read(1, 30), 0);
    }

    private static void refusesInOrder(Due due) {
        ExtentFileTree x = new ExtentFileTree();
        x.make(2, 0, 5, false);
        int[] wrongH = {0, 4, -1, Integer.MIN_VALUE, Integer.MAX_VALUE};
        int[] wrongD = {-1, 4, Integer.MIN_VALUE, Integer.MAX_VALUE};
        int[] wrongName = {-2, -1, 100, Integer.MIN_VALUE, Integer.MAX_VALUE};
        for (int h : wrongH) {
            due.is("make(" + h + ", 0, 1, true)", x.make(h, 0, 1, true), BAD);
            due.is("make(" + h + ", 3, 1, true)", x.make(h, 3, 1, true), BAD);
        }
        for (int d : wrongD) {
            due.is("make(1, " + d + ", 1, true)", x.make(1, d, 1, true), BAD);
        }
        for (int name : wrongName) {
            due.is("make(1, 0, " + name + ", true)", x.make(1, 0, name, true), BAD);
            due.is("make(1, 3, " + name + ", true)", x.make(1, 3, name, true), BAD);
            due.is("make(1, 2, " + name + ", true)", x.make(1, 2, name, true), BAD);
        }
        due.is("make(1, 3, 1, false)", x.make(1, 3, 1, false), NOTHING);
        due.is("make(1, 2, 1, false)", x.make(1, 2, 1, false), WRONG);
        due.is("make(1, 0, 5, true)", x.make(1, 0, 5, true), THERE);
        due.is("make(2, 0, 5, false)", x.make(2, 0, 5, false), THERE);
        due.is("nodes()", x.nodes(), 2);
        due.is("kind(1)", x.kind(1), 0);
        due.is("kind(2)", x.kind(2), 2);
    }

    private static void sixteenNodesAtMost(Due due) {
        ExtentFileTree x = new ExtentFileTree();
        for (int name = 0; name < 15; name++) {
            due.is("make(1, 0, " + name + ", false)", x.make(1, 0, name, false), 0);
        }
        due.is("nodes()", x.nodes(), 16);
        due.is("make(2, 0, 15, true)", x.make(2, 0, 15, true), FULL);
        due.is("make(2, 0, 3, true)", x.make(2, 0, 3, true), THERE);
        due.is("make(2, 1, 3, true)", x.make(2, 1, 3, true), WRONG);
        due.is("make(2, 3, 3, true)", x.make(2, 3, 3, true), NOTHING);
        due.is("make(2, 0, 100, true)", x.make(2, 0, 100, true), BAD);
        due.is("kind(2)", x.kind(2), 0);
        due.is("erase(0, 3)", x.erase(0, 3), 0);
        due.is("make(2, 0, 15, true)", x.make(2, 0, 15, true), 0);
        due.is("make(2, 0, 16, true)", x.make(2, 0, 16, true), FULL);
        due.is("kind(2)", x.kind(2), 1);
    }

    private static void savedNodesTakeNoRoom(Due due) {
        ExtentFileTree x = new ExtentFileTree();
        for (int name = 0; name < 15; name++) {
            x.make(1, 0, name, true);
        }
        x.save();
        x.erase(0, 0);
        due.is("make(1, 0, 50, false)", x.make(1, 0, 50, false), 0);
        due.is("crash(0)", x.crash(0), 1);
        due.is("open(1, 0, 0)", x.open(1, 0, 0), 0);
        due.is("kind(1)", x.kind(1), 1);
        due.is("open(1, 0, 50)", x.open(1, 0, 50), NOTHING);
    }
}
