/** The sentences of the chapter "Terms", each at its bound and one step to each side of it. */
public final class Edges00TermsTest {
    private static final int BAD = ExtentFileTree.BAD;
    private static final int FULL = ExtentFileTree.FULL;
    private static final int NOTHING = ExtentFileTree.NOTHING;
    private static final int OK = ExtentFileTree.OK;
    private static final int[] NO_NAME = {Integer.MIN_VALUE, -2, -1, 100, 101, Integer.MAX_VALUE};
    private static final int[] NO_CELL = {Integer.MIN_VALUE, -2, -1, 32, 33, Integer.MAX_VALUE};
    private static final int[] NO_HANDLE = {Integer.MIN_VALUE, -2, -1, 4, 5, Integer.MAX_VALUE};

    public static void main(String[] args) {
        Due due = new Due();
        namesFrom0To99(due);
        everyNodeIsTheEntryOfOneDirectory(due);
        cellsFrom0To31(due);
        cellsHoldAnyInt(due);
        eightBlocksOfFour(due);
        aBlockThatIsNotThereIsZero(due);
        sixteenNodesAtMost(due);
        onlyTheTopInTheBeginning(due);
        aBlockNotThereGetsANewCopy(due);
        aSavedCopyIsNotChanged(due);
        anyOtherWriteChangesTheCopyThereIs(due);
        twentyFourCopiesInThePresentState(due);
        twentyFourCopiesInTheSavedState(due);
        twentyFourCopiesInBothStates(due);
        twentyFourCopiesOverTheTwoStates(due);
        handlesFrom0To3(due);
        handle0AlwaysRefersToTheTop(due);
        theOtherHandlesReferToNothingAtFirst(due);
        due.end();
    }

    /** "A directory has entries, each with a name from 0 to 99 and a node" */
    private static void namesFrom0To99(Due due) {
        Edge at = new Edge(due, "a new object", x -> { });
        for (int name : NO_NAME) {
            at.keeps(BAD, x -> x.make(1, 0, name, true));
        }
        for (int name : new int[] {0, 1, 98, 99}) {
            RealTree x = at.changes(OK, y -> y.make(1, 0, name, true));
            due.is("next below " + name, x.next(0, name - 1), name);
            due.is("next at " + name, x.next(0, name), NOTHING);
            due.is("open " + name, x.open(2, 0, name), OK);
        }
    }

    /** "every node but the TOP, a directory, is the entry of just one directory" */
    private static void everyNodeIsTheEntryOfOneDirectory(Due due) {
        RealTree x = new RealTree();
        x.make(1, 0, 0, true);
        x.make(2, 1, 1, true);
        x.make(3, 2, 2, false);
        due.is("nodes but the top", x.nodes() - 1, x.size(0) + x.size(1) + x.size(2));
        x.rename(2, 2, 1, 2);
        due.is("size of the old directory", x.size(2), 0);
        due.is("size of the new one", x.size(1), 2);
        due.is("nodes but the top", x.nodes() - 1, x.size(0) + x.size(1) + x.size(2));
        x.rename(1, 2, 0, 2);
        due.is("open(3, 1, 2), where it was", x.open(3, 1, 2), NOTHING);
        due.is("open(3, 0, 2), where it is", x.open(3, 0, 2), OK);
        due.is("nodes but the top", x.nodes() - 1, x.size(0) + x.size(1) + x.size(2));
        due.is("kind(0)", x.kind(0), 1);
    }

    private static void oneFile(Tree x) {
        x.make(1, 0, 5, false);
    }

    /** "A file has 32 cells, 0 to 31" */
    private static void cellsFrom0To31(Due due) {
        Edge at = new Edge(due, "an empty file", Edges00TermsTest::oneFile);
        for (int cell : NO_CELL) {
            at.keeps(BAD, x -> x.write(1, cell, 9));
            at.keeps(0, x -> x.read(1, cell));
        }
        for (int cell : new int[] {0, 1, 30, 31}) {
            RealTree x = at.changes(OK, y -> y.write(1, cell, 9));
            for (int other = -1; other <= 32; other++) {
                due.is("read of " + other + " after a write to " + cell, x.read(1, other), other == cell ? 9 : 0);
            }
        }
    }

    /** "which hold ints" */
    private static void cellsHoldAnyInt(Due due) {
        Edge at = new Edge(due, "an empty file", Edges00TermsTest::oneFile);
        int[] values = {Integer.MIN_VALUE, Integer.MIN_VALUE + 1, -1, 0, 1, Integer.MAX_VALUE - 1, Integer.MAX_VALUE};
        for (int value : values) {
            RealTree x = at.changes(OK, y -> y.write(1, 17, value));
            due.is("read(1, 17)", x.read(1, 17), value);
            due.is("size(1)", x.size(1), 1);
        }
    }

    /** "in 8 BLOCKS of 4 (cell c is in block c >> 2)" */
    private static void eightBlocksOfFour(Due due) {
        for (int first = 0; first < 32; first += 4) {
            int block = first / 4;
            for (int cell = first; cell < first + 4; cell++) {
                RealTree x = new RealTree();
                oneFile(x);
                x.write(1, cell, 5);
                due.is("size(1) after cell " + cell, x.size(1), 1);
                due.is("cut behind the block of cell " + cell, block == 7 ? 0 : x.cut(1, block + 1), 0);
                due.is("cut at the block of cell " + cell, x.cut(1, block), 1);
            }
            RealTree x = new RealTree();
            oneFile(x);
            x.write(1, first, 1);
            x.write(1, first + 3, 2);
            due.is("size(1), first and last cell of block " + block, x.size(1), 1);
            if (block < 7) {
                x.write(1, first + 4, 3);
                due.is("size(1), and the cell behind", x.size(1), 2);
            }
            if (block > 0) {
                x.write(1, first - 1, 4);
                due.is("size(1), and the cell before", x.size(1), block < 7 ? 3 : 2);
            }
        }
    }

    /** "a block is there or not, and the cells of one that is not there are 0" */
    private static void aBlockThatIsNotThereIsZero(Due due) {
        for (int block = 0; block < 8; block++) {
            RealTree x = new RealTree();
            oneFile(x);
            for (int cell = 0; cell < 4; cell++) {
                x.write(1, block * 4 + cell, 6);
            }
            for (int cell = 0; cell < 32; cell++) {
                due.is("read(1, " + cell + ")", x.read(1, cell), cell / 4 == block ? 6 : 0);
            }
            due.is("cut(1, " + block + ")", x.cut(1, block), 1);
            for (int cell = 0; cell < 32; cell++) {
                due.is("read(1, " + cell + ") after the cut", x.read(1, cell), 0);
            }
            due.is("a write that brings it back", x.write(1, block * 4 + 1, 7), OK);
            for (int cell = 0; cell < 32; cell++) {
                due.is("read(1, " + cell + ") then", x.read(1, cell), cell == block * 4 + 1 ? 7 : 0);
            }
        }
        Edge at = new Edge(due, "an empty file", Edges00TermsTest::oneFile);
        RealTree x = at.changes(OK, y -> y.write(1, 0, 0));
        due.is("size(1), a block of zeros is there", x.size(1), 1);
    }

    private static void nodesBesideTheTop(Tree x, int count) {
        for (int name = 0; name < count; name++) {
            x.make(1, 0, name, name % 2 == 0);
        }
    }

    /** "There are at most 16 nodes, the top among them." */
    private static void sixteenNodesAtMost(Due due) {
        Edge fifteen = new Edge(due, "fifteen nodes", x -> nodesBesideTheTop(x, 14));
        Edge sixteen = new Edge(due, "sixteen nodes", x -> nodesBesideTheTop(x, 15));
        for (boolean directory : new boolean[] {true, false}) {
            RealTree x = fifteen.changes(OK, y -> y.make(2, 0, 50, directory));
            due.is("nodes()", x.nodes(), 16);
            sixteen.keeps(FULL, y -> y.make(2, 0, 50, directory));
        }
        RealTree x = sixteen.changes(OK, y -> y.erase(0, 3));
        due.is("nodes(), one erased", x.nodes(), 15);
        due.is("make(2, 0, 50, false)", x.make(2, 0, 50, false), OK);
        due.is("make(2, 0, 51, false)", x.make(2, 0, 51, false), FULL);
        due.is("nodes()", x.nodes(), 16);
    }

    /** "in the beginning there is only the top, without entries, in both" */
    private static void onlyTheTopInTheBeginning(Due due) {
        for (int when = -1; when <= 2; when++) {
            RealTree x = new RealTree();
            if (when >= 0) {
                due.is("crash(" + when + ")", x.crash(when), when == 1 ? 1 : 0);
            }
            due.is("nodes()", x.nodes(), 1);
            due.is("copies()", x.copies(), 0);
            due.is("kind(0)", x.kind(0), 1);
            due.is("size(0)", x.size(0), 0);
            due.is("next(0, smallest int)", x.next(0, Integer.MIN_VALUE), NOTHING);
        }
        Edge made = new Edge(due, "one node made and not saved", Edges00TermsTest::oneFile);
        RealTree x = made.changes(0, y -> y.crash(0));
        due.is("nodes()", x.nodes(), 1);
        due.is("size(0)", x.size(0), 0);
    }

    /** "A write to a block that is not there ... gives it a new copy" */
    private static void aBlockNotThereGetsANewCopy(Due due) {
        Edge empty = new Edge(due, "an empty file", Edges00TermsTest::oneFile);
        due.is("copies()", empty.changes(OK, x -> x.write(1, 3, 1)).copies(), 1);
        Edge one = new Edge(due, "a file with block 1", x -> {
            oneFile(x);
            x.write(1, 4, 1);
        });
        due.is("copies(), block 0", one.changes(OK, x -> x.write(1, 3, 1)).copies(), 2);
        due.is("copies(), block 1", one.changes(OK, x -> x.write(1, 7, 1)).copies(), 1);
        due.is("copies(), block 2", one.changes(OK, x -> x.write(1, 8, 1)).copies(), 2);
        Edge cut = new Edge(due, "a saved block that was cut", x -> {
            oneFile(x);
            x.write(1, 4, 1);
            x.save();
            x.cut(1, 0);
        });
        RealTree x = cut.changes(OK, y -> y.write(1, 5, 2));
        due.is("copies(), one in each state", x.copies(), 2);
        due.is("read(1, 4), nothing of the saved copy", x.read(1, 4), 0);
    }

    /** "or whose copy is in the saved state, gives it a new copy" */
    private static void aSavedCopyIsNotChanged(Due due) {
        Edge saved = new Edge(due, "a saved block", x -> {
            oneFile(x);
            x.write(1, 0, 1);
            x.write(1, 3, 4);
            x.save();
        });
        RealTree x = saved.changes(OK, y -> y.write(1, 0, 9));
        due.is("copies()", x.copies(), 2);
        due.is("read(1, 0)", x.read(1, 0), 9);
        due.is("read(1, 3), as before", x.read(1, 3), 4);
        due.is("crash(0)", x.crash(0), 1);
        due.is("open(1, 0, 5)", x.open(1, 0, 5), OK);
        due.is("read(1, 0), as saved", x.read(1, 0), 1);
        due.is("copies()", x.copies(), 1);
        x = saved.changes(OK, y -> y.write(1, 0, 1));
        due.is("copies(), though the value is the same", x.copies(), 2);
        Edge crashed = new Edge(due, "a block that a crash brought back", y -> {
            oneFile(y);
            y.write(1, 0, 1);
            y.crash(1);
            y.open(1, 0, 5);
        });
        due.is("copies()", crashed.changes(OK, y -> y.write(1, 0, 2)).copies(), 2);
    }

    /** "any other write changes the copy that it has" */
    private static void anyOtherWriteChangesTheCopyThereIs(Due due) {
        Edge never = new Edge(due, "a block that was never saved", x -> {
            oneFile(x);
            x.write(1, 0, 1);
        });
        RealTree x = never.changes(OK, y -> y.write(1, 3, 2));
        due.is("copies()", x.copies(), 1);
        due.is("read(1, 0)", x.read(1, 0), 1);
        Edge anew = new Edge(due, "a block with a copy newer than the saving", y -> {
            oneFile(y);
            y.write(1, 0, 1);
            y.save();
            y.write(1, 0, 2);
        });
        x = anew.changes(OK, y -> y.write(1, 1, 3));
        due.is("copies()", x.copies(), 2);
        due.is("read(1, 0)", x.read(1, 0), 2);
        x.save();
        due.is("copies(), the older one is gone", x.copies(), 1);
        due.is("write(1, 1, 4), now saved", x.write(1, 1, 4), OK);
        due.is("copies()", x.copies(), 2);
    }

    /** Files 1, 2, 3 at the handles 1, 2, 3, with so many blocks in all. */
    private static void blocks(Tree x, int count) {
        for (int h = 1; h <= 3; h++) {
            x.make(h, 0, h, false);
        }
        for (int i = 0; i < count; i++) {
            x.write(1 + i / 8, i % 8 * 4, 100 + i);
        }
    }

    /** "At most 24 copies are in the present ... state" */
    private static void twentyFourCopiesInThePresentState(Due due) {
        Edge before = new Edge(due, "23 copies, none saved", x -> blocks(x, 23));
        RealTree x = before.changes(OK, y -> y.write(3, 28, 9));
        due.is("copies()", x.copies(), 24);
        Edge full = new Edge(due, "24 copies, none saved", y -> {
            blocks(y, 24);
            y.make(3, 0, 4, false);
        });
        full.keeps(FULL, y -> y.write(3, 0, 9));
        full.keeps(FULL, y -> y.write(3, 31, 9));
        full.changes(OK, y -> y.write(1, 0, 9));
        full.changes(OK, y -> y.write(2, 31, 9));
        x = full.changes(1, y -> y.cut(1, 7));
        due.is("copies()", x.copies(), 23);
        due.is("write(3, 0, 9)", x.write(3, 0, 9), OK);
        due.is("write(3, 4, 9)", x.write(3, 4, 9), FULL);
        due.is("copies()", x.copies(), 24);
    }

    /** "At most 24 copies are in ... the saved state" */
    private static void twentyFourCopiesInTheSavedState(Due due) {
        for (int count = 23; count <= 24; count++) {
            int blocks = count;
            Edge cut = new Edge(due, count + " copies, all saved and none present", x -> {
                blocks(x, blocks);
                x.save();
                x.cut(1, 0);
                x.cut(2, 0);
                x.cut(3, 0);
            });
            if (count == 24) {
                cut.keeps(FULL, x -> x.write(1, 0, 9));
                RealTree x = cut.changes(2, y -> y.save());
                due.is("copies()", x.copies(), 0);
                due.is("write(1, 0, 9)", x.write(1, 0, 9), OK);
            } else {
                RealTree x = cut.changes(OK, y -> y.write(1, 0, 9));
                due.is("copies()", x.copies(), 24);
                due.is("write(1, 1, 9), the same block", x.write(1, 1, 9), OK);
                due.is("write(1, 4, 9), the next one", x.write(1, 4, 9), FULL);
            }
        }
    }

    /** "(or in both)": such a copy counts once. */
    private static void twentyFourCopiesInBothStates(Due due) {
        Edge before = new Edge(due, "23 copies, all in both states", x -> {
            blocks(x, 23);
            x.save();
        });
        due.is("copies()", before.changes(OK, x -> x.write(3, 28, 9)).copies(), 24);
        due.is("copies()", before.changes(OK, x -> x.write(1, 0, 9)).copies(), 24);
        Edge full = new Edge(due, "24 copies, all in both states", x -> {
            blocks(x, 24);
            x.save();
        });
        full.keeps(24, x -> x.copies());
        full.keeps(FULL, x -> x.write(1, 0, 9));
        full.keeps(FULL, x -> x.write(3, 31, 9));
        RealTree x = full.changes(1, y -> y.cut(3, 7));
        due.is("copies(), it is saved still", x.copies(), 24);
        due.is("write(3, 28, 9)", x.write(3, 28, 9), FULL);
    }

    /** "in the present or the saved state": copies of one block in the two states count apart. */
    private static void twentyFourCopiesOverTheTwoStates(Due due) {
        for (int rewritten = 11; rewritten <= 12; rewritten++) {
            int again = rewritten;
            Edge at = new Edge(due, "12 saved copies and " + again + " newer ones", x -> {
                blocks(x, 12);
                x.save();
                for (int i = 0; i < again; i++) {
                    x.write(1 + i / 8, i % 8 * 4, 200 + i);
                }
            });
            if (again == 11) {
                due.is("copies()", at.changes(OK, x -> x.write(2, 12, 9)).copies(), 24);
            } else {
                at.keeps(FULL, x -> x.write(2, 16, 9));
                at.changes(OK, x -> x.write(2, 12, 9));
                RealTree x = at.changes(2, y -> y.save());
                due.is("copies()", x.copies(), 12);
                x = at.changes(1, y -> y.crash(0));
                due.is("copies()", x.copies(), 12);
            }
        }
    }

    /** "There are 4 HANDLES, 0 to 3." */
    private static void handlesFrom0To3(Due due) {
        Edge at = new Edge(due, "a new object", x -> { });
        for (int h : NO_HANDLE) {
            at.keeps(BAD, x -> x.kind(h));
            at.keeps(BAD, x -> x.size(h));
            at.keeps(BAD, x -> x.make(h, 0, 1, true));
        }
        at.keeps(1, x -> x.kind(0));
        for (int handle = 1; handle <= 3; handle++) {
            int h = handle;
            at.keeps(0, x -> x.kind(h));
            RealTree x = at.changes(OK, y -> y.make(h, 0, 1, false));
            for (int other = 1; other <= 3; other++) {
                due.is("kind(" + other + ") after make with " + h, x.kind(other), other == h ? 2 : 0);
            }
        }
    }

    /** "Handle 0 always refers to the top" */
    private static void handle0AlwaysRefersToTheTop(Due due) {
        Edge at = new Edge(due, "a directory with a file", x -> {
            x.make(1, 0, 5, true);
            x.make(2, 1, 6, false);
        });
        at.keeps(BAD, x -> x.open(0, 1, -1));
        at.keeps(BAD, x -> x.open(0, 1, 6));
        at.keeps(BAD, x -> x.open(0, 0, -1));
        at.keeps(BAD, x -> x.make(0, 1, 7, true));
        for (int when = 0; when <= 2; when++) {
            int time = when;
            RealTree x = at.changes(when == 1 ? 1 : 0, y -> y.crash(time));
            due.is("kind(0)", x.kind(0), 1);
            due.is("next(0, -1)", x.next(0, -1), when == 1 ? 5 : NOTHING);
        }
    }

    /** "the others refer to a node of the present state or to nothing, which they do at first" */
    private static void theOtherHandlesReferToNothingAtFirst(Due due) {
        Edge at = new Edge(due, "a new object", x -> { });
        for (int handle = 1; handle <= 3; handle++) {
            int h = handle;
            at.keeps(0, x -> x.kind(h));
            at.keeps(0, x -> x.size(h));
            at.keeps(0, x -> x.read(h, 0));
            at.keeps(NOTHING, x -> x.next(h, -1));
            at.keeps(NOTHING, x -> x.open(h, h, -1));
            at.keeps(NOTHING, x -> x.open(h % 3 + 1, h, 0));
            at.keeps(NOTHING, x -> x.make(h, h, 0, true));
            at.keeps(NOTHING, x -> x.erase(h, 0));
            at.keeps(NOTHING, x -> x.rename(h, 0, h, 1));
            at.keeps(NOTHING, x -> x.write(h, 0, 1));
            at.keeps(NOTHING, x -> x.cut(h, 0));
        }
    }
}
