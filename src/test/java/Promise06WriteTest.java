public final class Promise06WriteTest {
    private static final int BAD = ExtentFileTree.BAD;
    private static final int FULL = ExtentFileTree.FULL;
    private static final int NOTHING = ExtentFileTree.NOTHING;
    private static final int WRONG = ExtentFileTree.WRONG;

    public static void main(String[] args) {
        Due due = new Due();
        writesEveryCell(due);
        aZeroMakesABlock(due);
        newCopiesAfterASaving(due);
        aNewBlockIsZeroElsewhere(due);
        refusesInOrder(due);
        twentyFourCopiesAtMost(due);
        savedCopiesTakeRoom(due);
        due.end();
    }

    private static void writesEveryCell(Due due) {
        ExtentFileTree x = new ExtentFileTree();
        x.make(1, 0, 0, false);
        x.make(2, 0, 1, false);
        for (int cell = 0; cell < 32; cell++) {
            due.is("write(1, " + cell + ", ..)", x.write(1, cell, 1000 + cell), 0);
            due.is("size(1)", x.size(1), cell / 4 + 1);
        }
        for (int cell = 0; cell < 32; cell++) {
            due.is("read(1, " + cell + ")", x.read(1, cell), 1000 + cell);
            due.is("read(2, " + cell + ")", x.read(2, cell), 0);
        }
        due.is("write the smallest", x.write(1, 0, Integer.MIN_VALUE), 0);
        due.is("write the greatest", x.write(1, 31, Integer.MAX_VALUE), 0);
        due.is("read(1, 0)", x.read(1, 0), Integer.MIN_VALUE);
        due.is("read(1, 31)", x.read(1, 31), Integer.MAX_VALUE);
        due.is("copies()", x.copies(), 8);
    }

    private static void aZeroMakesABlock(Due due) {
        ExtentFileTree x = new ExtentFileTree();
        x.make(1, 0, 0, false);
        due.is("write(1, 31, 0)", x.write(1, 31, 0), 0);
        due.is("size(1)", x.size(1), 1);
        due.is("copies()", x.copies(), 1);
    }

    private static void newCopiesAfterASaving(Due due) {
        ExtentFileTree x = new ExtentFileTree();
        x.make(1, 0, 0, false);
        x.write(1, 0, 1);
        x.write(1, 1, 2);
        x.save();
        due.is("write(1, 0, 3)", x.write(1, 0, 3), 0);
        due.is("copies()", x.copies(), 2);
        due.is("size(1)", x.size(1), 1);
        due.is("read(1, 0)", x.read(1, 0), 3);
        due.is("read(1, 1), carried over", x.read(1, 1), 2);
        due.is("write(1, 2, 4)", x.write(1, 2, 4), 0);
        due.is("copies()", x.copies(), 2);
        x.crash(0);
        x.open(1, 0, 0);
        due.is("read(1, 0)", x.read(1, 0), 1);
        due.is("read(1, 2)", x.read(1, 2), 0);
        due.is("copies()", x.copies(), 1);
        due.is("write(1, 0, 5), saved still", x.write(1, 0, 5), 0);
        due.is("copies()", x.copies(), 2);
    }

    private static void aNewBlockIsZeroElsewhere(Due due) {
        ExtentFileTree x = new ExtentFileTree();
        x.make(1, 0, 0, false);
        for (int cell = 0; cell < 4; cell++) {
            x.write(1, cell, 9);
        }
        x.cut(1, 0);
        due.is("write(1, 1, 5)", x.write(1, 1, 5), 0);
        due.is("read(1, 0)", x.read(1, 0), 0);
        due.is("read(1, 1)", x.read(1, 1), 5);
        due.is("read(1, 2)", x.read(1, 2), 0);
        due.is("read(1, 3)", x.read(1, 3), 0);
    }

    private static void refusesInOrder(Due due) {
        ExtentFileTree x = new ExtentFileTree();
        x.make(1, 0, 0, false);
        x.make(2, 0, 1, true);
        int[] wrongH = {-1, 4, Integer.MIN_VALUE, Integer.MAX_VALUE};
        int[] wrongCell = {-1, 32, Integer.MIN_VALUE, Integer.MAX_VALUE};
        for (int h : wrongH) {
            due.is("write(" + h + ", 0, 1)", x.write(h, 0, 1), BAD);
        }
        for (int cell : wrongCell) {
            for (int h = 0; h < 4; h++) {
                due.is("write(" + h + ", " + cell + ", 1)", x.write(h, cell, 1), BAD);
            }
        }
        due.is("write(3, 0, 1)", x.write(3, 0, 1), NOTHING);
        due.is("write(2, 0, 1)", x.write(2, 0, 1), WRONG);
        due.is("write(0, 0, 1)", x.write(0, 0, 1), WRONG);
        due.is("copies()", x.copies(), 0);
        due.is("size(1)", x.size(1), 0);
    }

    private static ExtentFileTree threeFullFiles() {
        ExtentFileTree x = new ExtentFileTree();
        for (int h = 1; h <= 3; h++) {
            x.make(h, 0, h, false);
            for (int block = 0; block < 8; block++) {
                x.write(h, block * 4, h);
            }
        }
        return x;
    }

    private static void twentyFourCopiesAtMost(Due due) {
        ExtentFileTree x = threeFullFiles();
        due.is("copies()", x.copies(), 24);
        due.is("write(1, 1, 5), the copy it has", x.write(1, 1, 5), 0);
        due.is("cut(3, 7)", x.cut(3, 7), 1);
        due.is("write(3, 31, 5)", x.write(3, 31, 5), 0);
        due.is("make(3, 0, 9, false)", x.make(3, 0, 9, false), 0);
        due.is("write(3, 0, 1)", x.write(3, 0, 1), FULL);
        due.is("write(3, 32, 1)", x.write(3, 32, 1), BAD);
        due.is("write(0, 0, 1)", x.write(0, 0, 1), WRONG);
        due.is("size(3)", x.size(3), 0);
        due.is("copies()", x.copies(), 24);
        due.is("erase(0, 3)", x.erase(0, 3), 0);
        due.is("write(3, 0, 1)", x.write(3, 0, 1), 0);
        due.is("copies()", x.copies(), 17);
    }

    private static void savedCopiesTakeRoom(Due due) {
        ExtentFileTree x = threeFullFiles();
        x.save();
        due.is("write(1, 0, 9), a saved copy", x.write(1, 0, 9), FULL);
        due.is("read(1, 0)", x.read(1, 0), 1);
        due.is("cut(1, 0)", x.cut(1, 0), 8);
        due.is("write(1, 0, 9), still saved", x.write(1, 0, 9), FULL);
        due.is("copies()", x.copies(), 24);
        due.is("save()", x.save(), 2);
        due.is("copies()", x.copies(), 16);
        due.is("write(1, 0, 9)", x.write(1, 0, 9), 0);
        due.is("read(1, 0)", x.read(1, 0), 9);
        due.is("read(2, 0)", x.read(2, 0), 2);
        due.is("read(3, 28)", x.read(3, 28), 3);
    }
}
