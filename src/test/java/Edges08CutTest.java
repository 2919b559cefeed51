/** The sentences of promise 8, each at its bound and one step to each side of it. */
public final class Edges08CutTest {
    private static final int BAD = ExtentFileTree.BAD;
    private static final int NOTHING = ExtentFileTree.NOTHING;
    private static final int WRONG = ExtentFileTree.WRONG;
    private static final int[] NO_HANDLE = {Integer.MIN_VALUE, -2, -1, 4, 5, Integer.MAX_VALUE};
    private static final int[] NO_BLOCK = {Integer.MIN_VALUE, -2, -1, 8, 9, 31, 32, Integer.MAX_VALUE};

    public static void main(String[] args) {
        Due due = new Due();
        Edge at = new Edge(due, "the scene", Edges08CutTest::scene);
        hFrom0To3(due, at);
        blocksFrom0To7(due, at);
        fromBlockOn(due);
        nothingOrADirectory(at);
        howManyWereThere(due);
        copiesOfCutBlocks(due);
        theFirstReasonAnswers(at);
        due.end();
    }

    /** Handle 1 at the directory 5, handle 2 at its file 6 with all eight blocks, handle 3 at nothing. */
    private static void scene(Tree x) {
        x.make(1, 0, 5, true);
        x.make(2, 1, 6, false);
        fill(x, 2);
    }

    private static void fill(Tree x, int h) {
        for (int block = 0; block < 8; block++) {
            x.write(h, block * 4, 100 * h + block);
            x.write(h, block * 4 + 3, 1000 * h + block);
        }
    }

    /** "h outside 0..3 ...: BAD" */
    private static void hFrom0To3(Due due, Edge at) {
        for (int h : NO_HANDLE) {
            at.keeps(BAD, x -> x.cut(h, 0));
            at.keeps(BAD, x -> x.cut(h, 7));
        }
        at.keeps(WRONG, x -> x.cut(0, 0));
        for (int h = 1; h <= 3; h++) {
            int handle = h;
            Edge there = new Edge(due, "handle " + h + " at the file", x -> {
                scene(x);
                x.open(handle, 2, -1);
            });
            RealTree x = there.changes(8, y -> y.cut(handle, 0));
            due.is("size(2), the same file", x.size(2), 0);
        }
    }

    /** "or block outside 0..7: BAD" */
    private static void blocksFrom0To7(Due due, Edge at) {
        for (int block : NO_BLOCK) {
            at.keeps(BAD, x -> x.cut(2, block));
        }
        for (int block : new int[] {0, 1, 6, 7}) {
            RealTree x = at.changes(8 - block, y -> y.cut(2, block));
            due.is("size(2)", x.size(2), block);
            due.is("copies()", x.copies(), block);
        }
    }

    /** "Makes the blocks from number block on not be there in the file of handle h." */
    private static void fromBlockOn(Due due) {
        Edge at = new Edge(due, "three full files", x -> {
            for (int h = 1; h <= 3; h++) {
                x.make(h, 0, h, false);
                fill(x, h);
            }
        });
        for (int first = 0; first < 8; first++) {
            int block = first;
            RealTree x = at.changes(8 - first, y -> y.cut(2, block));
            for (int other = 0; other < 8; other++) {
                due.is("read of file 1", x.read(1, other * 4), 100 + other);
                due.is("read of file 2, first of block " + other, x.read(2, other * 4), other < first ? 200 + other : 0);
                due.is("read of file 2, last of block " + other, x.read(2, other * 4 + 3),
                        other < first ? 2000 + other : 0);
                due.is("read of file 3", x.read(3, other * 4), 300 + other);
            }
            due.is("size(1)", x.size(1), 8);
            due.is("size(2)", x.size(2), first);
            due.is("size(3)", x.size(3), 8);
        }
    }

    /** "handle h refers to nothing: NOTHING, to a directory: WRONG" */
    private static void nothingOrADirectory(Edge at) {
        for (int block : new int[] {0, 1, 6, 7}) {
            at.keeps(NOTHING, x -> x.cut(3, block));
            at.keeps(WRONG, x -> x.cut(1, block));
            at.keeps(WRONG, x -> x.cut(0, block));
        }
    }

    /** "Else answers how many blocks were there that are not any more." */
    private static void howManyWereThere(Due due) {
        Edge empty = new Edge(due, "an empty file", x -> x.make(1, 0, 5, false));
        for (int block = 0; block < 8; block++) {
            int first = block;
            empty.keeps(0, x -> x.cut(1, first));
        }
        Edge some = new Edge(due, "blocks 2, 3 and 6", x -> {
            x.make(1, 0, 5, false);
            x.write(1, 8, 1);
            x.write(1, 15, 0);
            x.write(1, 24, 1);
        });
        int[] answers = {3, 3, 3, 2, 1, 1, 1, 0};
        for (int block = 0; block < 7; block++) {
            int first = block;
            due.is("size(1)", some.changes(answers[block], x -> x.cut(1, first)).size(1), 3 - answers[block]);
        }
        some.keeps(0, x -> x.cut(1, 7));
        Edge twice = new Edge(due, "blocks cut from 3 on", x -> {
            x.make(1, 0, 5, false);
            fill(x, 1);
            x.cut(1, 3);
        });
        twice.keeps(0, x -> x.cut(1, 4));
        twice.keeps(0, x -> x.cut(1, 3));
        twice.changes(1, x -> x.cut(1, 2));
    }

    private static void copiesOfCutBlocks(Due due) {
        Edge at = new Edge(due, "a block saved, one saved and changed, one new", x -> {
            x.make(1, 0, 5, false);
            x.write(1, 0, 1);
            x.write(1, 4, 2);
            x.save();
            x.write(1, 4, 3);
            x.write(1, 8, 4);
        });
        at.keeps(4, x -> x.copies());
        due.is("copies(), the new one is gone", at.changes(1, x -> x.cut(1, 2)).copies(), 3);
        due.is("copies(), and the changed one", at.changes(2, x -> x.cut(1, 1)).copies(), 2);
        RealTree x = at.changes(3, y -> y.cut(1, 0));
        due.is("copies(), the saved ones stay", x.copies(), 2);
        due.is("crash(0)", x.crash(0), 1);
        due.is("open(1, 0, 5)", x.open(1, 0, 5), 0);
        due.is("size(1)", x.size(1), 2);
        due.is("read(1, 0)", x.read(1, 0), 1);
        due.is("read(1, 4)", x.read(1, 4), 2);
    }

    /** "Tested in this order" */
    private static void theFirstReasonAnswers(Edge at) {
        for (int block : NO_BLOCK) {
            at.keeps(BAD, x -> x.cut(3, block));
            at.keeps(BAD, x -> x.cut(1, block));
            at.keeps(BAD, x -> x.cut(0, block));
            at.keeps(BAD, x -> x.cut(4, block));
        }
    }
}
