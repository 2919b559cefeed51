public final class Promise04EraseTest {
    private static final int BAD = ExtentFileTree.BAD;
    private static final int FULL = ExtentFileTree.FULL;
    private static final int NOTHING = ExtentFileTree.NOTHING;
    private static final int WRONG = ExtentFileTree.WRONG;
    private static final int BUSY = ExtentFileTree.BUSY;

    public static void main(String[] args) {
        Due due = new Due();
        takesFilesAway(due);
        takesEmptyDirectoriesAway(due);
        refusesInOrder(due);
        everyHandleKeepsANode(due);
        due.end();
    }

    private static void takesFilesAway(Due due) {
        ExtentFileTree x = new ExtentFileTree();
        x.make(1, 0, 0, false);
        x.write(1, 0, 1);
        x.write(1, 4, 1);
        x.make(1, 0, 99, false);
        x.write(1, 0, 9);
        due.is("erase(0, 0)", x.erase(0, 0), 0);
        due.is("copies()", x.copies(), 1);
        due.is("nodes()", x.nodes(), 2);
        due.is("size(0)", x.size(0), 1);
        due.is("open(2, 0, 0)", x.open(2, 0, 0), NOTHING);
        due.is("erase(0, 0)", x.erase(0, 0), NOTHING);
        due.is("read(1, 0)", x.read(1, 0), 9);
        x.save();
        x.open(1, 0, -1);
        due.is("erase(0, 99)", x.erase(0, 99), 0);
        due.is("copies()", x.copies(), 1);
        due.is("nodes()", x.nodes(), 1);
    }

    private static void takesEmptyDirectoriesAway(Due due) {
        ExtentFileTree x = new ExtentFileTree();
        x.make(1, 0, 5, true);
        x.make(2, 1, 6, true);
        x.open(2, 0, -1);
        due.is("erase(1, 6)", x.erase(1, 6), 0);
        due.is("size(1)", x.size(1), 0);
        x.open(1, 0, -1);
        due.is("erase(0, 5)", x.erase(0, 5), 0);
        due.is("size(0)", x.size(0), 0);
        due.is("nodes()", x.nodes(), 1);
    }

    private static void refusesInOrder(Due due) {
        ExtentFileTree x = new ExtentFileTree();
        x.make(1, 0, 5, true);
        x.make(2, 1, 6, false);
        int[] wrongD = {-1, 4, Integer.MIN_VALUE, Integer.MAX_VALUE};
        int[] wrongName = {-1, 100, Integer.MIN_VALUE, Integer.MAX_VALUE};
        for (int d : wrongD) {
            due.is("erase(" + d + ", 5)", x.erase(d, 5), BAD);
        }
        for (int name : wrongName) {
            due.is("erase(0, " + name + ")", x.erase(0, name), BAD);
            due.is("erase(3, " + name + ")", x.erase(3, name), BAD);
            due.is("erase(2, " + name + ")", x.erase(2, name), BAD);
        }
        due.is("erase(3, 5)", x.erase(3, 5), NOTHING);
        due.is("erase(2, 6)", x.erase(2, 6), WRONG);
        due.is("erase(0, 6)", x.erase(0, 6), NOTHING);
        due.is("erase(0, 5) with a handle and entries", x.erase(0, 5), BUSY);
        due.is("erase(1, 6)", x.erase(1, 6), BUSY);
        x.open(1, 0, -1);
        due.is("erase(0, 5) with entries", x.erase(0, 5), FULL);
        due.is("nodes()", x.nodes(), 3);
        due.is("next(0, 4)", x.next(0, 4), 5);
    }

    private static void everyHandleKeepsANode(Due due) {
        for (int h = 1; h <= 3; h++) {
            ExtentFileTree x = new ExtentFileTree();
            x.make(h, 0, 7, true);
            due.is("erase(0, 7) with handle " + h, x.erase(0, 7), BUSY);
            x.crash(1);
            due.is("erase(0, 7) after a crash", x.erase(0, 7), 0);
        }
    }
}
