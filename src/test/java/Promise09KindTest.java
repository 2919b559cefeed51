public final class Promise09KindTest {
    public static void main(String[] args) {
        Due due = new Due();
        ExtentFileTree x = new ExtentFileTree();
        due.is("kind(0)", x.kind(0), 1);
        for (int h = 1; h <= 3; h++) {
            due.is("kind(" + h + ")", x.kind(h), 0);
            x.make(h, 0, h, false);
            due.is("kind(" + h + ")", x.kind(h), 2);
            x.make(h, 0, 10 + h, true);
            due.is("kind(" + h + ")", x.kind(h), 1);
        }
        x.open(3, 0, 1);
        due.is("kind(3)", x.kind(3), 2);
        int[] wrongH = {-1, 4, Integer.MIN_VALUE, Integer.MAX_VALUE};
        for (int h : wrongH) {
            due.is("kind(" + h + ")", x.kind(h), ExtentFileTree.BAD);
        }
        x.crash(1);
        due.is("kind(0)", x.kind(0), 1);
        for (int h = 1; h <= 3; h++) {
            due.is("kind(" + h + ") after a crash", x.kind(h), 0);
        }
        due.end();
    }
}
