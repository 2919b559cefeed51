/** The sentences of promise 6, each at its bound and one step to each side of it. */
public final class Edges06WriteTest {
    private static final int BAD = ExtentFileTree.BAD;
    private static final int FULL = ExtentFileTree.FULL;
    private static final int NOTHING = ExtentFileTree.NOTHING;
    private static final int WRONG = ExtentFileTree.WRONG;
    private static final int OK = ExtentFileTree.OK;
    private static final int[] NO_HANDLE = {Integer.MIN_VALUE, -2, -1, 4, 5, Integer.MAX_VALUE};
    private static final int[] NO_CELL = {Integer.MIN_VALUE, -2, -1, 32, 33, Integer.MAX_VALUE};

    public static void main(String[] args) {
        Due due = new Due();
        Edge at = new Edge(due, "the scene", Edges06WriteTest::scene);
        hFrom0To3(due, at);
        cellsFrom0To31(due, at);
        nothingOrADirectory(at);
        aNewCopyAt24(due);
        aNewCopyOfASavedBlockAt24(due);
        noNewCopyAt24(due);
        roomAgain(due);
        theFirstReasonAnswers(due, at);
        due.end();
    }

    /** Handle 1 at the directory 5, handle 2 at its file 6 with one saved block of two, handle 3 at nothing. */
    private static void scene(Tree x) {
        x.make(1, 0, 5, true);
        x.make(2, 1, 6, false);
        x.write(2, 16, 1);
        x.crash(1);
        x.open(1, 0, 5);
        x.open(2, 1, 6);
        x.write(2, 20, 2);
    }

    /** "h outside 0..3 ...: BAD" */
    private static void hFrom0To3(Due due, Edge at) {
        for (int h : NO_HANDLE) {
            at.keeps(BAD, x -> x.write(h, 0, 9));
            at.keeps(BAD, x -> x.write(h, 31, 9));
        }
        at.keeps(WRONG, x -> x.write(0, 0, 9));
        for (int h = 1; h <= 3; h++) {
            int handle = h;
            Edge there = new Edge(due, "handle " + h + " at the file", x -> {
                scene(x);
                x.open(handle, 2, -1);
            });
            RealTree x = there.changes(OK, y -> y.write(handle, 0, 9));
            due.is("read(" + h + ", 0)", x.read(h, 0), 9);
            due.is("read(2, 0), the same file", x.read(2, 0), 9);
            due.is("size(" + h + ")", x.size(h), 3);
        }
    }

    /** "or cell outside 0..31: BAD" */
    private static void cellsFrom0To31(Due due, Edge at) {
        for (int cell : NO_CELL) {
            at.keeps(BAD, x -> x.write(2, cell, 9));
        }
        for (int cell : new int[] {0, 1, 15, 16, 17, 19, 20, 23, 24, 30, 31}) {
            RealTree x = at.changes(OK, y -> y.write(2, cell, 9));
            boolean there = cell / 4 == 4 || cell / 4 == 5;
            due.is("size(2)", x.size(2), there ? 2 : 3);
            due.is("copies()", x.copies(), cell / 4 == 5 ? 2 : 3);
            for (int other = 0; other < 32; other++) {
                int before = other == 16 ? 1 : other == 20 ? 2 : 0;
                due.is("read(2, " + other + ")", x.read(2, other), other == cell ? 9 : before);
            }
        }
    }

    /** "handle h refers to nothing: NOTHING, to a directory: WRONG" */
    private static void nothingOrADirectory(Edge at) {
        for (int cell : new int[] {0, 1, 16, 20, 30, 31}) {
            at.keeps(NOTHING, x -> x.write(3, cell, 9));
            at.keeps(WRONG, x -> x.write(1, cell, 9));
            at.keeps(WRONG, x -> x.write(0, cell, 9));
        }
    }

    /** Files 1, 2, 3 and 4, with so many blocks in all; handles 1 to 3 at the first three. */
    private static void blocks(Tree x, int count) {
        x.make(3, 0, 4, false);
        for (int h = 1; h <= 3; h++) {
            x.make(h, 0, h, false);
        }
        for (int i = 0; i < count; i++) {
            x.write(1 + i / 8, i % 8 * 4, 100 + i);
        }
    }

    /** "the block would become a new copy and 24 copies are in the present or the saved state: FULL" */
    private static void aNewCopyAt24(Due due) {
        for (int count = 22; count <= 24; count++) {
            int there = count;
            Edge at = new Edge(due, count + " copies", x -> {
                blocks(x, there);
                x.open(1, 0, 4);
            });
            for (int cell : new int[] {0, 13, 31}) {
                if (count == 24) {
                    at.keeps(FULL, x -> x.write(1, cell, 9));
                } else {
                    RealTree x = at.changes(OK, y -> y.write(1, cell, 9));
                    due.is("copies()", x.copies(), count + 1);
                    due.is("read(1, " + cell + ")", x.read(1, cell), 9);
                    due.is("size(1)", x.size(1), 1);
                }
            }
        }
    }

    private static void aNewCopyOfASavedBlockAt24(Due due) {
        for (int count = 22; count <= 24; count++) {
            int there = count;
            Edge at = new Edge(due, count + " saved copies", x -> {
                blocks(x, there);
                x.save();
            });
            for (int cell : new int[] {0, 3, 4, 31}) {
                if (count == 24) {
                    at.keeps(FULL, x -> x.write(1, cell, 9));
                    at.keeps(FULL, x -> x.write(3, cell, 9));
                } else {
                    RealTree x = at.changes(OK, y -> y.write(1, cell, 9));
                    due.is("copies()", x.copies(), count + 1);
                    due.is("size(1)", x.size(1), 8);
                    due.is("read(1, " + cell + ")", x.read(1, cell), 9);
                }
            }
        }
    }

    /** A block that has a copy which is not saved takes a write at 24 copies too. */
    private static void noNewCopyAt24(Due due) {
        Edge present = new Edge(due, "24 copies, none saved", x -> blocks(x, 24));
        Edge mixed = new Edge(due, "23 saved copies and a new one of block 3 of file 1", x -> {
            blocks(x, 23);
            x.save();
            x.write(1, 12, 9);
        });
        for (int cell = 11; cell <= 16; cell++) {
            int here = cell;
            RealTree x = present.changes(OK, y -> y.write(1, here, 8));
            due.is("copies()", x.copies(), 24);
            due.is("read(1, " + cell + ")", x.read(1, cell), 8);
            if (cell / 4 == 3) {
                x = mixed.changes(OK, y -> y.write(1, here, 8));
                due.is("copies()", x.copies(), 24);
                due.is("read(1, " + cell + ")", x.read(1, cell), 8);
            } else {
                mixed.keeps(FULL, y -> y.write(1, here, 8));
            }
        }
        mixed.keeps(FULL, x -> x.write(3, 28, 8));
    }

    /** What takes a copy out of both states makes room for just one other. */
    private static void roomAgain(Due due) {
        RealTree x = new RealTree();
        blocks(x, 24);
        due.is("cut(1, 7)", x.cut(1, 7), 1);
        due.is("copies()", x.copies(), 23);
        due.is("write(1, 28, 9)", x.write(1, 28, 9), OK);
        due.is("save()", x.save(), 1);
        due.is("cut(1, 7), a saved block", x.cut(1, 7), 1);
        due.is("write(1, 28, 9)", x.write(1, 28, 9), FULL);
        due.is("save()", x.save(), 2);
        due.is("copies()", x.copies(), 23);
        due.is("write(1, 28, 9)", x.write(1, 28, 9), OK);
        due.is("write(1, 0, 9), a saved block", x.write(1, 0, 9), FULL);
        due.is("crash(2)", x.crash(2), 2);
        due.is("copies()", x.copies(), 23);
        due.is("open(1, 0, 1)", x.open(1, 0, 1), OK);
        due.is("write(1, 0, 9)", x.write(1, 0, 9), OK);
        due.is("write(1, 4, 9)", x.write(1, 4, 9), FULL);
        due.is("erase(0, 3), a saved file", x.erase(0, 3), OK);
        due.is("copies()", x.copies(), 24);
        due.is("write(1, 4, 9)", x.write(1, 4, 9), FULL);
        due.is("crash(1)", x.crash(1), 3);
        due.is("copies()", x.copies(), 15);
    }

    /** "Tested in this order" */
    private static void theFirstReasonAnswers(Due due, Edge at) {
        for (int cell : NO_CELL) {
            at.keeps(BAD, x -> x.write(3, cell, 9));
            at.keeps(BAD, x -> x.write(1, cell, 9));
            at.keeps(BAD, x -> x.write(0, cell, 9));
            at.keeps(BAD, x -> x.write(4, cell, 9));
        }
        Edge full = new Edge(due, "24 saved copies, handle 1 at a file, handle 2 at a directory", x -> {
            blocks(x, 24);
            x.make(3, 0, 9, true);
            x.crash(1);
            x.open(1, 0, 1);
            x.open(2, 0, 9);
        });
        full.keeps(FULL, x -> x.write(1, 0, 9));
        full.keeps(NOTHING, x -> x.write(3, 0, 9));
        full.keeps(WRONG, x -> x.write(2, 0, 9));
        full.keeps(WRONG, x -> x.write(0, 0, 9));
        for (int cell : NO_CELL) {
            full.keeps(BAD, x -> x.write(1, cell, 9));
        }
        for (int h : NO_HANDLE) {
            full.keeps(BAD, x -> x.write(h, 0, 9));
        }
    }
}
