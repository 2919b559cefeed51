public final class Promise08CutTest {
    private static final int BAD = ExtentFileTree.BAD;
    private static final int NOTHING = ExtentFileTree.NOTHING;
    private static final int WRONG = ExtentFileTree.WRONG;

    public static void main(String[] args) {
        Due due = new Due();
        cutsFromEveryBlock(due);
        countsOnlyBlocksThatWereThere(due);
        savedBlocksStaySaved(due);
        refusesInOrder(due);
        due.end();
    }

    private static void cutsFromEveryBlock(Due due) {
        for (int from = 0; from < 8; from++) {
            ExtentFileTree x = new ExtentFileTree();
            x.make(1, 0, 0, false);
            x.make(2, 0, 1, false);
            for (int block = 0; block < 8; block++) {
                x.write(1, block * 4 + 3, 50 + block);
                x.write(2, block * 4, 60 + block);
            }
            due.is("cut(1, " + from + ")", x.cut(1, from), 8 - from);
            due.is("size(1)", x.size(1), from);
            due.is("size(2)", x.size(2), 8);
            due.is("copies()", x.copies(), 8 + from);
            for (int block = 0; block < 8; block++) {
                int want = block < from ? 50 + block : 0;
                due.is("read(1, " + (block * 4 + 3) + ")", x.read(1, block * 4 + 3), want);
                due.is("read(2, " + block * 4 + ")", x.read(2, block * 4), 60 + block);
            }
            due.is("cut(1, " + from + ") again", x.cut(1, from), 0);
        }
    }

    private static void countsOnlyBlocksThatWereThere(Due due) {
        ExtentFileTree x = new ExtentFileTree();
        x.make(1, 0, 0, false);
        due.is("cut(1, 0) of no blocks", x.cut(1, 0), 0);
        x.write(1, 0, 1);
        x.write(1, 12, 1);
        x.write(1, 31, 1);
        due.is("cut(1, 4)", x.cut(1, 4), 1);
        due.is("cut(1, 4)", x.cut(1, 4), 0);
        due.is("cut(1, 1)", x.cut(1, 1), 1);
        due.is("cut(1, 0)", x.cut(1, 0), 1);
        due.is("kind(1)", x.kind(1), 2);
        due.is("nodes()", x.nodes(), 2);
    }

    private static void savedBlocksStaySaved(Due due) {
        ExtentFileTree x = new ExtentFileTree();
        x.make(1, 0, 0, false);
        x.write(1, 0, 1);
        x.write(1, 4, 2);
        x.save();
        x.write(1, 8, 3);
        due.is("cut(1, 0)", x.cut(1, 0), 3);
        due.is("copies()", x.copies(), 2);
        x.write(1, 0, 9);
        x.crash(2);
        x.open(1, 0, 0);
        due.is("size(1)", x.size(1), 2);
        due.is("read(1, 0)", x.read(1, 0), 1);
        due.is("read(1, 4)", x.read(1, 4), 2);
        due.is("read(1, 8)", x.read(1, 8), 0);
    }

    private static void refusesInOrder(Due due) {
        ExtentFileTree x = new ExtentFileTree();
        x.make(1, 0, 0, false);
        x.make(2, 0, 1, true);
        x.write(1, 28, 1);
        int[] wrongH = {-1, 4, Integer.MIN_VALUE, Integer.MAX_VALUE};
        int[] wrongBlock = {-1, 8, Integer.MIN_VALUE, Integer.MAX_VALUE};
        for (int h : wrongH) {
            due.is("cut(" + h + ", 0)", x.cut(h, 0), BAD);
        }
        for (int block : wrongBlock) {
            for (int h = 0; h < 4; h++) {
                due.is("cut(" + h + ", " + block + ")", x.cut(h, block), BAD);
            }
        }
        due.is("cut(3, 0)", x.cut(3, 0), NOTHING);
        due.is("cut(2, 0)", x.cut(2, 0), WRONG);
        due.is("cut(0, 7)", x.cut(0, 7), WRONG);
        due.is("size(1)", x.size(1), 1);
    }
}
