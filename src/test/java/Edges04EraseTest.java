/** The sentences of promise 4, each at its bound and one step to each side of it. */
public final class Edges04EraseTest {
    private static final int BAD = ExtentFileTree.BAD;
    private static final int FULL = ExtentFileTree.FULL;
    private static final int NOTHING = ExtentFileTree.NOTHING;
    private static final int WRONG = ExtentFileTree.WRONG;
    private static final int BUSY = ExtentFileTree.BUSY;
    private static final int OK = ExtentFileTree.OK;
    private static final int[] NO_HANDLE = {Integer.MIN_VALUE, -2, -1, 4, 5, Integer.MAX_VALUE};
    private static final int[] NO_NAME = {Integer.MIN_VALUE, -2, -1, 100, 101, Integer.MAX_VALUE};

    public static void main(String[] args) {
        Due due = new Due();
        Edge at = new Edge(due, "the scene", Edges04EraseTest::scene);
        takesTheNodeToo(due, at);
        dFrom0To3(due, at);
        namesFrom0To99(due, at);
        nothingOrAFile(at);
        noSuchEntry(due, at);
        aHandleRefersToIt(due);
        aHandleRefersToItsEntry(due);
        aDirectoryWithEntries(due);
        theFirstReasonAnswers(due, at);
        due.end();
    }

    /**
     * The top has the files 0, 1, 98 and 99 and the directory 50, which has the files 20 and 0 and the empty directory
     * 21. Handle 1 is at the directory 50, handle 2 at its file 20, handle 3 at nothing. File 0 has a saved block and a
     * new one.
     */
    private static void scene(Tree x) {
        for (int name : new int[] {1, 98, 99, 0}) {
            x.make(3, 0, name, false);
        }
        x.write(3, 0, 5);
        x.make(1, 0, 50, true);
        x.make(2, 1, 21, true);
        x.make(2, 1, 0, false);
        x.make(2, 1, 20, false);
        x.crash(1);
        x.open(2, 0, 0);
        x.write(2, 4, 6);
        x.open(1, 0, 50);
        x.open(2, 1, 20);
    }

    /** "Takes an entry away, and its node." */
    private static void takesTheNodeToo(Due due, Edge at) {
        RealTree before = new RealTree();
        scene(before);
        due.is("nodes() before", before.nodes(), 9);
        due.is("copies() before", before.copies(), 2);
        RealTree x = at.changes(OK, y -> y.erase(0, 0));
        due.is("nodes()", x.nodes(), 8);
        due.is("size(0)", x.size(0), 4);
        due.is("next(0, -1)", x.next(0, -1), 1);
        due.is("copies(), the saved one", x.copies(), 1);
        due.is("open(3, 0, 0)", x.open(3, 0, 0), NOTHING);
        due.is("erase(0, 0) again", x.erase(0, 0), NOTHING);
        due.is("open(3, 1, 0), the other of this name", x.open(3, 1, 0), OK);
        due.is("make(3, 0, 0, false)", x.make(3, 0, 0, false), OK);
        due.is("size(3)", x.size(3), 0);
        due.is("read(3, 4)", x.read(3, 4), 0);
    }

    /** "d outside 0..3 ...: BAD" */
    private static void dFrom0To3(Due due, Edge at) {
        for (int d : NO_HANDLE) {
            at.keeps(BAD, x -> x.erase(d, 0));
            at.keeps(BAD, x -> x.erase(d, 20));
        }
        due.is("size(0), d is 0", at.changes(OK, x -> x.erase(0, 1)).size(0), 4);
        for (int d = 1; d <= 3; d++) {
            int handle = d;
            Edge there = new Edge(due, "handle " + d + " at the directory", x -> {
                scene(x);
                x.open(handle, 0, 50);
            });
            RealTree x = there.changes(OK, y -> y.erase(handle, 0));
            due.is("size(" + d + ")", x.size(d), 2);
            due.is("size(0)", x.size(0), 5);
        }
    }

    /** "or name outside 0..99: BAD" */
    private static void namesFrom0To99(Due due, Edge at) {
        for (int name : NO_NAME) {
            at.keeps(BAD, x -> x.erase(0, name));
            at.keeps(BAD, x -> x.erase(1, name));
        }
        for (int name : new int[] {0, 1, 98, 99}) {
            RealTree x = at.changes(OK, y -> y.erase(0, name));
            due.is("open(3, 0, " + name + ")", x.open(3, 0, name), NOTHING);
            due.is("size(0)", x.size(0), 4);
        }
    }

    /** "handle d refers to nothing: NOTHING, to a file: WRONG" */
    private static void nothingOrAFile(Edge at) {
        for (int name : new int[] {0, 1, 20, 50, 98, 99}) {
            at.keeps(NOTHING, x -> x.erase(3, name));
            at.keeps(WRONG, x -> x.erase(2, name));
        }
    }

    /** "there is no such entry: NOTHING" */
    private static void noSuchEntry(Due due, Edge at) {
        for (int name : new int[] {2, 49, 51, 97}) {
            at.keeps(NOTHING, x -> x.erase(0, name));
        }
        for (int name : new int[] {1, 19, 22, 50, 99}) {
            at.keeps(NOTHING, x -> x.erase(1, name));
        }
        due.is("size(1), one step from there", at.changes(OK, x -> x.erase(1, 21)).size(1), 2);
        Edge empty = new Edge(due, "an empty directory", x -> x.make(1, 0, 5, true));
        for (int name : new int[] {0, 5, 99}) {
            empty.keeps(NOTHING, x -> x.erase(1, name));
        }
    }

    /** "a handle refers to its node: BUSY" */
    private static void aHandleRefersToIt(Due due) {
        for (boolean directory : new boolean[] {true, false}) {
            for (int h = 1; h <= 3; h++) {
                int first = h;
                int second = h % 3 + 1;
                Edge one = new Edge(due, "handle " + h + " at the node", x -> x.make(first, 0, 5, directory));
                one.keeps(BUSY, x -> x.erase(0, 5));
                Edge two = new Edge(due, "two handles at the node", x -> {
                    x.make(first, 0, 5, directory);
                    x.open(second, first, -1);
                });
                two.keeps(BUSY, x -> x.erase(0, 5));
                Edge left = new Edge(due, "one of two handles at the node", x -> {
                    x.make(first, 0, 5, directory);
                    x.open(second, 0, 5);
                    x.open(first, 0, -1);
                });
                left.keeps(BUSY, x -> x.erase(0, 5));
                Edge none = new Edge(due, "no handle at the node any more", x -> {
                    x.make(first, 0, 5, directory);
                    x.open(first, 0, -1);
                });
                due.is("nodes()", none.changes(OK, x -> x.erase(0, 5)).nodes(), 1);
            }
            Edge crashed = new Edge(due, "no handle after a crash", x -> {
                x.make(1, 0, 5, directory);
                x.crash(1);
            });
            due.is("nodes()", crashed.changes(OK, x -> x.erase(0, 5)).nodes(), 1);
        }
        Edge moved = new Edge(due, "the node moved under its handle", x -> {
            x.make(1, 0, 5, true);
            x.make(2, 0, 6, false);
            x.rename(0, 6, 1, 7);
        });
        moved.keeps(BUSY, x -> x.erase(1, 7));
    }

    /** A handle at an entry of the directory is none at the directory. */
    private static void aHandleRefersToItsEntry(Due due) {
        Edge at = new Edge(due, "a handle one below", x -> {
            x.make(1, 0, 5, true);
            x.make(2, 1, 6, true);
            x.open(1, 0, -1);
        });
        at.keeps(FULL, x -> x.erase(0, 5));
        Edge beside = new Edge(due, "a handle beside and one above", x -> {
            x.make(1, 0, 5, true);
            x.make(2, 1, 6, false);
            x.make(3, 1, 7, false);
            x.open(3, 0, -1);
        });
        due.is("size(1)", beside.changes(OK, x -> x.erase(1, 7)).size(1), 1);
    }

    /** "it is a directory with entries: FULL" */
    private static void aDirectoryWithEntries(Due due) {
        for (int count = 0; count <= 14; count++) {
            int entries = count;
            Edge at = new Edge(due, "a directory with " + count + " entries", x -> {
                x.make(1, 0, 5, true);
                for (int name = 0; name < entries; name++) {
                    x.make(2, 1, name, name % 2 == 0);
                }
                x.open(1, 0, -1);
                x.open(2, 0, -1);
            });
            if (count > 0) {
                at.keeps(FULL, x -> x.erase(0, 5));
            } else {
                due.is("nodes()", at.changes(OK, x -> x.erase(0, 5)).nodes(), 1);
            }
        }
        Edge emptied = new Edge(due, "a directory that had an entry", x -> {
            x.make(1, 0, 5, true);
            x.make(2, 1, 6, false);
            x.save();
            x.open(2, 0, -1);
            x.erase(1, 6);
            x.open(1, 0, -1);
        });
        due.is("nodes()", emptied.changes(OK, x -> x.erase(0, 5)).nodes(), 1);
        Edge blocks = new Edge(due, "a file with all blocks", x -> {
            x.make(1, 0, 5, false);
            for (int cell = 0; cell < 32; cell += 4) {
                x.write(1, cell, 1);
            }
            x.open(1, 0, -1);
        });
        due.is("copies(), a file has no entries", blocks.changes(OK, x -> x.erase(0, 5)).copies(), 0);
    }

    /** "Tested in this order" */
    private static void theFirstReasonAnswers(Due due, Edge at) {
        for (int name : NO_NAME) {
            at.keeps(BAD, x -> x.erase(3, name));
            at.keeps(BAD, x -> x.erase(2, name));
            at.keeps(BAD, x -> x.erase(4, name));
        }
        at.keeps(BUSY, x -> x.erase(0, 50));
        Edge without = new Edge(due, "the handle moved away", x -> {
            scene(x);
            x.open(1, 0, -1);
        });
        without.keeps(FULL, x -> x.erase(0, 50));
    }
}
