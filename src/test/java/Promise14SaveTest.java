public final class Promise14SaveTest {
    public static void main(String[] args) {
        Due due = new Due();
        countsSavings(due);
        savesAll(due);
        leavesThePresentState(due);
        laterChangesAreNotSaved(due);
        due.end();
    }

    private static void countsSavings(Due due) {
        ExtentFileTree x = new ExtentFileTree();
        due.is("save()", x.save(), 1);
        due.is("save()", x.save(), 2);
        due.is("crash(0)", x.crash(0), 2);
        due.is("crash(1)", x.crash(1), 3);
        due.is("crash(2)", x.crash(2), 3);
        due.is("crash(5)", x.crash(5), ExtentFileTree.BAD);
        due.is("save()", x.save(), 4);
        for (int i = 5; i < 500; i++) {
            due.is("save()", x.save(), i);
        }
    }

    private static ExtentFileTree small() {
        ExtentFileTree x = new ExtentFileTree();
        x.make(1, 0, 5, true);
        x.make(2, 1, 6, false);
        x.make(3, 0, 99, false);
        x.write(2, 0, 1);
        x.write(2, 31, 2);
        x.write(3, 7, 3);
        return x;
    }

    private static void savesAll(Due due) {
        ExtentFileTree x = small();
        String before = Observer.tree(small());
        x.save();
        x.crash(0);
        due.same("the saved tree", Observer.tree(x), before);
    }

    private static void leavesThePresentState(Due due) {
        ExtentFileTree x = small();
        x.save();
        due.is("kind(1)", x.kind(1), 1);
        due.is("kind(2)", x.kind(2), 2);
        due.is("read(3, 7)", x.read(3, 7), 3);
        due.is("copies()", x.copies(), 3);
        due.is("nodes()", x.nodes(), 4);
        due.same("the present tree", Observer.tree(x), Observer.tree(small()));
    }

    private static void laterChangesAreNotSaved(Due due) {
        ExtentFileTree x = small();
        x.save();
        x.write(2, 0, 100);
        x.write(2, 16, 100);
        x.cut(3, 0);
        x.rename(0, 5, 0, 7);
        x.open(3, 0, -1);
        x.erase(0, 99);
        x.make(3, 0, 50, true);
        x.crash(0);
        due.same("the saved tree", Observer.tree(x), Observer.tree(small()));
    }
}
