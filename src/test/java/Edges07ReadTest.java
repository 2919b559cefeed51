/** The sentence of promise 7, at its bounds and one step to each side of them. Nothing that it answers is a refusal. */
public final class Edges07ReadTest {
    private static final int[] NO_HANDLE = {Integer.MIN_VALUE, -2, -1, 4, 5, Integer.MAX_VALUE};
    private static final int[] NO_CELL = {Integer.MIN_VALUE, -5, -4, -2, -1, 32, 33, 35, 36, Integer.MAX_VALUE};

    public static void main(String[] args) {
        Due due = new Due();
        Edge at = new Edge(due, "the scene", Edges07ReadTest::scene);
        handlesFrom0To3(due, at);
        cellsFrom0To31(at);
        noBlock(due, at);
        noFile(at);
        theCellsOfTheOtherFile(due);
        theCellsOfThePresentState(due);
        due.end();
    }

    /** The file 6 in the directory 5, all of whose cells but those of block 3 hold 100 and more. */
    private static void scene(Tree x) {
        x.make(1, 0, 5, true);
        x.make(2, 1, 6, false);
        for (int cell = 0; cell < 32; cell++) {
            if (cell / 4 != 3) {
                x.write(2, cell, 100 + cell);
            }
        }
    }

    /** "A cell of the file of handle h; 0 if there is none": no such handle. */
    private static void handlesFrom0To3(Due due, Edge at) {
        for (int h : NO_HANDLE) {
            at.keeps(0, x -> x.read(h, 0));
            at.keeps(0, x -> x.read(h, 31));
            at.keeps(0, x -> x.read(h, 32));
        }
        at.keeps(100, x -> x.read(2, 0));
        for (int h = 1; h <= 3; h += 2) {
            int handle = h;
            Edge there = new Edge(due, "handle " + h + " at the file", x -> {
                scene(x);
                x.open(handle, 2, -1);
            });
            there.keeps(131, x -> x.read(handle, 31));
        }
    }

    /** No such cell: one of no file, not one of the block before or behind. */
    private static void cellsFrom0To31(Edge at) {
        for (int cell : NO_CELL) {
            at.keeps(0, x -> x.read(2, cell));
            at.keeps(0, x -> x.read(0, cell));
            at.keeps(0, x -> x.read(3, cell));
        }
        for (int cell : new int[] {0, 1, 30, 31}) {
            at.keeps(100 + cell, x -> x.read(2, cell));
        }
    }

    /** No such block: its cells are 0, those one step before and behind it are not. */
    private static void noBlock(Due due, Edge at) {
        for (int cell = 11; cell <= 16; cell++) {
            int here = cell;
            at.keeps(cell == 11 || cell == 16 ? 100 + cell : 0, x -> x.read(2, here));
        }
        Edge cut = new Edge(due, "blocks 6 and 7 cut away", x -> {
            scene(x);
            x.cut(2, 6);
        });
        cut.keeps(122, x -> x.read(2, 22));
        cut.keeps(123, x -> x.read(2, 23));
        cut.keeps(0, x -> x.read(2, 24));
        cut.keeps(0, x -> x.read(2, 31));
    }

    /** No file: handle h refers to a directory or to nothing. */
    private static void noFile(Edge at) {
        for (int cell : new int[] {0, 1, 4, 30, 31}) {
            at.keeps(0, x -> x.read(0, cell));
            at.keeps(0, x -> x.read(1, cell));
            at.keeps(0, x -> x.read(3, cell));
        }
    }

    private static void theCellsOfTheOtherFile(Due due) {
        Edge at = new Edge(due, "three files made one after the other", x -> {
            for (int h = 1; h <= 3; h++) {
                x.make(h, 0, h, false);
            }
            x.write(1, 31, 131);
            x.write(2, 0, 200);
            x.write(2, 31, 231);
            x.write(3, 0, 300);
        });
        at.keeps(0, x -> x.read(1, 0));
        at.keeps(131, x -> x.read(1, 31));
        at.keeps(0, x -> x.read(1, 32));
        at.keeps(0, x -> x.read(2, -1));
        at.keeps(200, x -> x.read(2, 0));
        at.keeps(231, x -> x.read(2, 31));
        at.keeps(0, x -> x.read(2, 32));
        at.keeps(0, x -> x.read(3, -1));
        at.keeps(300, x -> x.read(3, 0));
        at.keeps(0, x -> x.read(3, 31));
    }

    private static void theCellsOfThePresentState(Due due) {
        Edge at = new Edge(due, "a block saved and changed, another saved and cut", x -> {
            x.make(1, 0, 5, false);
            x.write(1, 3, 1);
            x.write(1, 4, 2);
            x.save();
            x.write(1, 3, 7);
            x.cut(1, 1);
        });
        at.keeps(7, x -> x.read(1, 3));
        at.keeps(0, x -> x.read(1, 4));
    }
}
