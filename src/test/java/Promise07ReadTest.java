public final class Promise07ReadTest {
    public static void main(String[] args) {
        Due due = new Due();
        ExtentFileTree x = new ExtentFileTree();
        x.make(1, 0, 0, false);
        x.make(2, 0, 1, true);
        x.write(1, 0, 11);
        x.write(1, 31, -12);
        due.is("read(1, 0)", x.read(1, 0), 11);
        due.is("read(1, 31)", x.read(1, 31), -12);
        due.is("read(1, 1), not written", x.read(1, 1), 0);
        due.is("read(1, 28), not written", x.read(1, 28), 0);
        due.is("read(1, 4), no block", x.read(1, 4), 0);
        due.is("read(1, 4) makes no block", x.size(1), 2);

        int[] noCell = {-1, 32, 33, -4, Integer.MIN_VALUE, Integer.MAX_VALUE};
        for (int cell : noCell) {
            due.is("read(1, " + cell + ")", x.read(1, cell), 0);
        }
        int[] noHandle = {-1, 4, 5, Integer.MIN_VALUE, Integer.MAX_VALUE};
        for (int h : noHandle) {
            due.is("read(" + h + ", 0)", x.read(h, 0), 0);
        }
        due.is("read(0, 0), the top", x.read(0, 0), 0);
        due.is("read(2, 0), a directory", x.read(2, 0), 0);
        due.is("read(3, 0), nothing", x.read(3, 0), 0);

        x.cut(1, 7);
        due.is("read(1, 31), cut away", x.read(1, 31), 0);
        due.is("read(1, 0)", x.read(1, 0), 11);
        due.end();
    }
}
