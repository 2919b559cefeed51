public final class Promise01NewObjectTest {
    public static void main(String[] args) {
        Due due = new Due();
        theTopAlone(due);
        handlesReferToNothing(due);
        theSavedStateIsTheSame(due);
        objectsAreApart(due);
        due.end();
    }

    private static void theTopAlone(Due due) {
        ExtentFileTree x = new ExtentFileTree();
        due.is("kind(0)", x.kind(0), 1);
        due.is("size(0)", x.size(0), 0);
        due.is("next(0, -1)", x.next(0, -1), ExtentFileTree.NOTHING);
        due.is("nodes()", x.nodes(), 1);
        due.is("copies()", x.copies(), 0);
        due.is("save()", x.save(), 1);
    }

    private static void handlesReferToNothing(Due due) {
        ExtentFileTree x = new ExtentFileTree();
        for (int h = 1; h <= 3; h++) {
            due.is("kind(" + h + ")", x.kind(h), 0);
            due.is("size(" + h + ")", x.size(h), 0);
            due.is("next(" + h + ", -1)", x.next(h, -1), ExtentFileTree.NOTHING);
        }
    }

    private static void theSavedStateIsTheSame(Due due) {
        ExtentFileTree x = new ExtentFileTree();
        x.make(1, 0, 0, false);
        x.write(1, 0, 7);
        due.is("crash(0)", x.crash(0), 0);
        due.is("kind(0)", x.kind(0), 1);
        due.is("size(0)", x.size(0), 0);
        due.is("nodes()", x.nodes(), 1);
        due.is("copies()", x.copies(), 0);
    }

    private static void objectsAreApart(Due due) {
        ExtentFileTree x = new ExtentFileTree();
        ExtentFileTree y = new ExtentFileTree();
        x.make(1, 0, 0, false);
        x.write(1, 0, 7);
        x.save();
        due.is("y.size(0)", y.size(0), 0);
        due.is("y.kind(1)", y.kind(1), 0);
        due.is("y.copies()", y.copies(), 0);
        due.is("y.save()", y.save(), 1);
    }
}
