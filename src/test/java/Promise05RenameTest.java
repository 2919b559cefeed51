public final class Promise05RenameTest {
    private static final int BAD = ExtentFileTree.BAD;
    private static final int NOTHING = ExtentFileTree.NOTHING;
    private static final int WRONG = ExtentFileTree.WRONG;
    private static final int THERE = ExtentFileTree.THERE;
    private static final int BUSY = ExtentFileTree.BUSY;
    private static final int CIRCLE = ExtentFileTree.CIRCLE;

    public static void main(String[] args) {
        Due due = new Due();
        movesWithAllBelow(due);
        renamesInPlace(due);
        handlesStayWithTheNode(due);
        refusesNumbers(due);
        refusesInOrder(due);
        refusesCircles(due);
        theLongestCircle(due);
        due.end();
    }

    private static void movesWithAllBelow(Due due) {
        ExtentFileTree x = new ExtentFileTree();
        x.make(1, 0, 1, true);
        x.make(2, 1, 2, true);
        x.make(3, 2, 3, false);
        x.write(3, 8, 77);
        x.make(3, 0, 4, true);
        due.is("rename(1, 2, 3, 99)", x.rename(1, 2, 3, 99), 0);
        due.is("size(1)", x.size(1), 0);
        due.is("size(3)", x.size(3), 1);
        due.is("next(3, -1)", x.next(3, -1), 99);
        due.is("open(1, 3, 99)", x.open(1, 3, 99), 0);
        due.is("open(1, 1, 3)", x.open(1, 1, 3), 0);
        due.is("read(1, 8)", x.read(1, 8), 77);
        due.is("nodes()", x.nodes(), 5);
        due.is("copies()", x.copies(), 1);
    }

    private static void renamesInPlace(Due due) {
        ExtentFileTree x = new ExtentFileTree();
        x.make(1, 0, 50, false);
        x.write(1, 0, 3);
        due.is("rename(0, 50, 0, 0)", x.rename(0, 50, 0, 0), 0);
        due.is("rename(0, 50, 0, 1)", x.rename(0, 50, 0, 1), NOTHING);
        due.is("rename(0, 0, 0, 99)", x.rename(0, 0, 0, 99), 0);
        due.is("next(0, -1)", x.next(0, -1), 99);
        due.is("size(0)", x.size(0), 1);
        due.is("read(1, 0)", x.read(1, 0), 3);
    }

    private static void handlesStayWithTheNode(Due due) {
        ExtentFileTree x = new ExtentFileTree();
        x.make(1, 0, 1, true);
        x.make(2, 0, 2, true);
        x.make(3, 1, 3, false);
        due.is("rename(1, 3, 2, 3)", x.rename(1, 3, 2, 3), 0);
        due.is("kind(3)", x.kind(3), 2);
        due.is("erase(2, 3)", x.erase(2, 3), BUSY);
        due.is("rename(0, 1, 2, 1)", x.rename(0, 1, 2, 1), 0);
        due.is("make(3, 1, 8, false)", x.make(3, 1, 8, false), 0);
        due.is("size(2)", x.size(2), 2);
        due.is("size(0)", x.size(0), 1);
        due.is("open(3, 2, 1)", x.open(3, 2, 1), 0);
        due.is("next(3, -1)", x.next(3, -1), 8);
    }

    private static void refusesNumbers(Due due) {
        ExtentFileTree x = new ExtentFileTree();
        x.make(1, 0, 1, true);
        x.make(2, 0, 2, false);
        int[] wrongHandle = {-1, 4, Integer.MIN_VALUE, Integer.MAX_VALUE};
        int[] wrongName = {-1, 100, Integer.MIN_VALUE, Integer.MAX_VALUE};
        for (int h : wrongHandle) {
            due.is("rename(" + h + ", 1, 0, 5)", x.rename(h, 1, 0, 5), BAD);
            due.is("rename(0, 1, " + h + ", 5)", x.rename(0, 1, h, 5), BAD);
            due.is("rename(" + h + ", 1, 3, 5)", x.rename(h, 1, 3, 5), BAD);
            due.is("rename(3, 1, " + h + ", 5)", x.rename(3, 1, h, 5), BAD);
        }
        for (int name : wrongName) {
            due.is("rename(0, " + name + ", 0, 5)", x.rename(0, name, 0, 5), BAD);
            due.is("rename(0, 1, 0, " + name + ")", x.rename(0, 1, 0, name), BAD);
            due.is("rename(3, " + name + ", 0, 5)", x.rename(3, name, 0, 5), BAD);
            due.is("rename(0, 1, 2, " + name + ")", x.rename(0, 1, 2, name), BAD);
        }
    }

    private static void refusesInOrder(Due due) {
        ExtentFileTree x = new ExtentFileTree();
        x.make(1, 0, 1, true);
        x.make(2, 0, 2, false);
        due.is("rename(3, 1, 0, 5)", x.rename(3, 1, 0, 5), NOTHING);
        due.is("rename(0, 1, 3, 5)", x.rename(0, 1, 3, 5), NOTHING);
        due.is("rename(2, 1, 3, 5), a file and nothing", x.rename(2, 1, 3, 5), NOTHING);
        due.is("rename(3, 1, 2, 5), nothing and a file", x.rename(3, 1, 2, 5), NOTHING);
        due.is("rename(2, 1, 0, 5)", x.rename(2, 1, 0, 5), WRONG);
        due.is("rename(0, 1, 2, 5)", x.rename(0, 1, 2, 5), WRONG);
        due.is("rename(0, 9, 2, 5), no entry", x.rename(0, 9, 2, 5), WRONG);
        due.is("rename(0, 9, 0, 1), no entry and THERE", x.rename(0, 9, 0, 1), NOTHING);
        due.is("rename(0, 9, 0, 5)", x.rename(0, 9, 0, 5), NOTHING);
        due.is("rename(0, 1, 0, 2)", x.rename(0, 1, 0, 2), THERE);
        due.is("rename(0, 1, 0, 1), the entry itself", x.rename(0, 1, 0, 1), THERE);
        x.make(3, 1, 4, false);
        due.is("rename(0, 1, 1, 4), THERE and a circle", x.rename(0, 1, 1, 4), THERE);
        due.is("rename(0, 1, 1, 5)", x.rename(0, 1, 1, 5), CIRCLE);
        due.is("size(0)", x.size(0), 2);
        due.is("size(1)", x.size(1), 1);
    }

    private static void refusesCircles(Due due) {
        ExtentFileTree x = new ExtentFileTree();
        x.make(1, 0, 1, true);
        x.make(2, 1, 2, true);
        x.make(3, 2, 3, true);
        due.is("rename(0, 1, 1, 9), into itself", x.rename(0, 1, 1, 9), CIRCLE);
        due.is("rename(0, 1, 2, 9), one below", x.rename(0, 1, 2, 9), CIRCLE);
        due.is("rename(0, 1, 3, 9), two below", x.rename(0, 1, 3, 9), CIRCLE);
        due.is("rename(1, 2, 3, 9)", x.rename(1, 2, 3, 9), CIRCLE);
        due.is("rename(2, 3, 1, 9), upwards", x.rename(2, 3, 1, 9), 0);
        due.is("rename(1, 2, 3, 9), now beside", x.rename(1, 2, 3, 9), 0);
        due.is("rename(1, 9, 2, 1), now above", x.rename(1, 9, 2, 1), CIRCLE);
    }

    /** A chain of all sixteen nodes: the way up from its end is as long as one can be. */
    private static void theLongestCircle(Due due) {
        ExtentFileTree x = new ExtentFileTree();
        x.make(1, 0, 0, true);
        for (int i = 1; i < 15; i++) {
            due.is("make(1, 1, 0, true)", x.make(1, 1, 0, true), 0);
        }
        due.is("rename(0, 0, 1, 0)", x.rename(0, 0, 1, 0), CIRCLE);
        due.is("open(2, 0, 0)", x.open(2, 0, 0), 0);
        due.is("rename(2, 0, 1, 0)", x.rename(2, 0, 1, 0), CIRCLE);
        due.is("rename(2, 0, 0, 1)", x.rename(2, 0, 0, 1), 0);
        due.is("rename(0, 0, 1, 0)", x.rename(0, 0, 1, 0), 0);
    }
}
