public final class Promise14SaveTest {
    public static void main(String[] args) {
        Due due = new Due();
        countsSavings(due);
        savesAll(due);
        leavesThePresentState(due);
        laterChangesAreNotSaved(due);
        due.end();
    }

    private static void countsSavings(Due due) {
        ExtentFileTree x = new ExtentFileTree();
        due.is("save()", x.save(), 1);
        due.is("save()", x.save(), 2);
        due.is("crash(0)", x.crash(0), 2);
        due.is("crash(1)", x.crash(1), 3);
        due.is("crash(2)", x.crash(2), 3);
        due.is("crash(5)", x.crash(5), ExtentFileTree.BAD);
        due.is("save()", x.save(), 4);
        for (int i = 5; i < 500; i++) {
            due.is("save()", x.save(), i);
        }
    }

    private static RealTree small() {
        RealTree x = new RealTree();
        x.make(1, 0, 5, true);
        x.make(2, 1, 6, false);
        x.make(3, 0, 99, false);
        x.write(2, 0, 1);
        x.write(2, 31, 2);
        x.write(3, 7, 3);
        return x;
    }

    private static RealTree saved() {
        RealTree x = small();
        x.save();
        return x;
    }

    private static RealTree savedAndCrashed() {
        RealTree x = saved();
        x.crash(0);
        return x;
    }

    private static RealTree savedAndChangedAndCrashed() {
        RealTree x = saved();
        x.write(2, 0, 100);
        x.write(2, 16, 100);
        x.cut(3, 0);
        x.rename(0, 5, 0, 7);
        x.open(3, 0, -1);
        x.erase(0, 99);
        x.make(3, 0, 50, true);
        x.crash(0);
        return x;
    }

    private static void savesAll(Due due) {
        RealTree x = savedAndCrashed();
        due.is("size(0)", x.size(0), 2);
        due.is("next(0, -1)", x.next(0, -1), 5);
        due.is("next(0, 5)", x.next(0, 5), 99);
        due.is("open(1, 0, 5)", x.open(1, 0, 5), 0);
        due.is("open(2, 1, 6)", x.open(2, 1, 6), 0);
        due.is("open(3, 0, 99)", x.open(3, 0, 99), 0);
        due.is("read(2, 0)", x.read(2, 0), 1);
        due.is("read(2, 31)", x.read(2, 31), 2);
        due.is("read(3, 7)", x.read(3, 7), 3);
        due.is("size(2)", x.size(2), 2);
        due.same("the present nodes", Observer.present(Promise14SaveTest::savedAndCrashed),
                Observer.present(Promise14SaveTest::saved));
    }

    private static void leavesThePresentState(Due due) {
        RealTree x = saved();
        due.is("kind(1)", x.kind(1), 1);
        due.is("kind(2)", x.kind(2), 2);
        due.is("read(3, 7)", x.read(3, 7), 3);
        due.is("copies()", x.copies(), 3);
        due.is("nodes()", x.nodes(), 4);
    }

    private static void laterChangesAreNotSaved(Due due) {
        due.same("the present nodes", Observer.present(Promise14SaveTest::savedAndChangedAndCrashed),
                Observer.present(Promise14SaveTest::saved));
    }
}
