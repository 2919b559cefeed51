/** The sentences of promise 3, each at its bound and one step to each side of it. */
public final class Edges03MakeTest {
    private static final int BAD = ExtentFileTree.BAD;
    private static final int FULL = ExtentFileTree.FULL;
    private static final int NOTHING = ExtentFileTree.NOTHING;
    private static final int WRONG = ExtentFileTree.WRONG;
    private static final int THERE = ExtentFileTree.THERE;
    private static final int OK = ExtentFileTree.OK;
    private static final int[] NO_FREE_HANDLE = {Integer.MIN_VALUE, -1, 0, 4, 5, Integer.MAX_VALUE};
    private static final int[] NO_HANDLE = {Integer.MIN_VALUE, -2, -1, 4, 5, Integer.MAX_VALUE};
    private static final int[] NO_NAME = {Integer.MIN_VALUE, -2, -1, 100, 101, Integer.MAX_VALUE};
    private static final boolean[] KINDS = {true, false};

    public static void main(String[] args) {
        Due due = new Due();
        Edge at = new Edge(due, "the scene", Edges03MakeTest::scene);
        for (boolean directory : KINDS) {
            hFrom1To3(due, at, directory);
            dFrom0To3(due, at, directory);
            namesFrom0To99(due, at, directory);
            nothingOrAFile(at, directory);
            anEntryWithThisName(due, at, directory);
            theSameHandleTwice(due, at, directory);
            sixteenNodes(due, directory);
            sixteenSavedNodes(due, directory);
        }
        theFirstReasonAnswers(at);
        theFirstReasonAnswersWhenFull(due);
        withoutBlocksOrEntries(due);
        due.end();
    }

    /** Handle 1 at the directory 50 with the file 20, handle 2 at the file 20, handle 3 at nothing. */
    private static void scene(Tree x) {
        x.make(1, 0, 50, true);
        x.make(2, 1, 20, false);
        x.write(2, 0, 7);
    }

    private static int kindOf(boolean directory) {
        return directory ? 1 : 2;
    }

    /** "h outside 1..3 ...: BAD"; "handle h refers to it then" */
    private static void hFrom1To3(Due due, Edge at, boolean directory) {
        for (int h : NO_FREE_HANDLE) {
            at.keeps(BAD, x -> x.make(h, 0, 1, directory));
        }
        int[] before = {1, 1, 2, 0};
        for (int h = 1; h <= 3; h++) {
            int handle = h;
            RealTree x = at.changes(OK, y -> y.make(handle, 0, 1, directory));
            for (int other = 0; other <= 3; other++) {
                due.is("kind(" + other + ")", x.kind(other), other == h ? kindOf(directory) : before[other]);
            }
            due.is("size(" + h + ")", x.size(h), 0);
            due.is("nodes()", x.nodes(), 4);
            due.is("size(0)", x.size(0), 2);
        }
    }

    /** "d outside 0..3 ...: BAD" */
    private static void dFrom0To3(Due due, Edge at, boolean directory) {
        for (int d : NO_HANDLE) {
            at.keeps(BAD, x -> x.make(3, d, 1, directory));
        }
        due.is("size(0), d is 0", at.changes(OK, x -> x.make(3, 0, 1, directory)).size(0), 2);
        for (int d = 1; d <= 3; d++) {
            int handle = d;
            Edge there = new Edge(due, "handle " + d + " at the directory", x -> {
                scene(x);
                x.open(handle, 0, 50);
            });
            RealTree x = there.changes(OK, y -> y.make(handle % 3 + 1, handle, 1, directory));
            due.is("size(0)", x.size(0), 1);
            due.is("size(" + d + ")", x.size(d), 2);
        }
    }

    /** "or name outside 0..99: BAD" */
    private static void namesFrom0To99(Due due, Edge at, boolean directory) {
        for (int name : NO_NAME) {
            at.keeps(BAD, x -> x.make(3, 0, name, directory));
            at.keeps(BAD, x -> x.make(3, 1, name, directory));
        }
        for (int name : new int[] {0, 1, 98, 99}) {
            RealTree x = at.changes(OK, y -> y.make(3, 1, name, directory));
            due.is("next(1, " + (name - 1) + ")", x.next(1, name - 1), name);
            due.is("open(3, 1, " + name + ")", x.open(3, 1, name), OK);
        }
    }

    /** "handle d refers to nothing: NOTHING, to a file: WRONG" */
    private static void nothingOrAFile(Edge at, boolean directory) {
        for (int handle = 1; handle <= 3; handle++) {
            int h = handle;
            for (int name : new int[] {0, 20, 50, 99}) {
                at.keeps(NOTHING, x -> x.make(h, 3, name, directory));
                at.keeps(WRONG, x -> x.make(h, 2, name, directory));
            }
        }
    }

    /** "there is an entry with this name: THERE" */
    private static void anEntryWithThisName(Due due, Edge at, boolean directory) {
        at.keeps(THERE, x -> x.make(3, 0, 50, directory));
        at.keeps(THERE, x -> x.make(3, 1, 20, directory));
        at.keeps(THERE, x -> x.make(1, 1, 20, directory));
        for (int name : new int[] {49, 51}) {
            due.is("size(0)", at.changes(OK, x -> x.make(3, 0, name, directory)).size(0), 2);
        }
        due.is("size(1), the name of the top's entry", at.changes(OK, x -> x.make(3, 1, 50, directory)).size(1), 2);
        due.is("size(0), the name of the other's entry", at.changes(OK, x -> x.make(3, 0, 20, directory)).size(0), 2);
        Edge erased = new Edge(due, "file 20 erased", x -> {
            scene(x);
            x.open(2, 0, -1);
            x.erase(1, 20);
        });
        due.is("size(1)", erased.changes(OK, x -> x.make(3, 1, 20, directory)).size(1), 1);
    }

    private static void theSameHandleTwice(Due due, Edge at, boolean directory) {
        RealTree x = at.changes(OK, y -> y.make(1, 1, 7, directory));
        due.is("kind(1)", x.kind(1), kindOf(directory));
        due.is("open(1, 0, 50)", x.open(1, 0, 50), OK);
        due.is("size(1)", x.size(1), 2);
        at.keeps(WRONG, y -> y.make(2, 2, 7, directory));
        at.keeps(NOTHING, y -> y.make(3, 3, 7, directory));
    }

    private static void nodes(Tree x, int count) {
        scene(x);
        for (int i = 3; i < count; i++) {
            x.make(3, 0, i, i % 2 == 0);
        }
    }

    /** "there are 16 nodes: FULL" */
    private static void sixteenNodes(Due due, boolean directory) {
        for (int count = 14; count <= 16; count++) {
            int there = count;
            Edge at = new Edge(due, count + " nodes", x -> nodes(x, there));
            at.keeps(count, x -> x.nodes());
            for (int parent = 0; parent <= 1; parent++) {
                int d = parent;
                if (count == 16) {
                    at.keeps(FULL, x -> x.make(3, d, 99, directory));
                } else {
                    due.is("nodes()", at.changes(OK, x -> x.make(3, d, 99, directory)).nodes(), count + 1);
                }
            }
        }
    }

    /** The nodes of the saved state, which the present one has no more, leave their room to others. */
    private static void sixteenSavedNodes(Due due, boolean directory) {
        Edge at = new Edge(due, "16 nodes saved, 15 present", x -> {
            nodes(x, 16);
            x.save();
            x.erase(0, 3);
        });
        RealTree x = at.changes(OK, y -> y.make(3, 1, 99, directory));
        due.is("nodes()", x.nodes(), 16);
        due.is("make(3, 1, 98, ..)", x.make(3, 1, 98, directory), FULL);
        due.is("crash(0)", x.crash(0), 1);
        due.is("nodes()", x.nodes(), 16);
        due.is("open(1, 0, 3)", x.open(1, 0, 3), OK);
        due.is("kind(1)", x.kind(1), 2);
        Edge crashed = new Edge(due, "15 nodes saved, and back from 16", y -> {
            nodes(y, 15);
            y.save();
            y.make(3, 0, 99, true);
            y.crash(2);
        });
        due.is("nodes()", crashed.changes(OK, y -> y.make(1, 0, 98, directory)).nodes(), 16);
    }

    /** "Tested in this order" */
    private static void theFirstReasonAnswers(Edge at) {
        for (int h : NO_FREE_HANDLE) {
            at.keeps(BAD, x -> x.make(h, 4, 100, true));
            at.keeps(BAD, x -> x.make(h, 3, 1, true));
            at.keeps(BAD, x -> x.make(h, 2, 1, true));
            at.keeps(BAD, x -> x.make(h, 0, 50, true));
        }
        for (int name : NO_NAME) {
            at.keeps(BAD, x -> x.make(1, 3, name, true));
            at.keeps(BAD, x -> x.make(1, 2, name, true));
        }
    }

    private static void theFirstReasonAnswersWhenFull(Due due) {
        Edge full = new Edge(due, "16 nodes", x -> {
            nodes(x, 16);
            x.crash(1);
            x.open(1, 0, 50);
            x.open(2, 1, 20);
        });
        for (boolean directory : KINDS) {
            full.keeps(BAD, x -> x.make(0, 0, 1, directory));
            full.keeps(BAD, x -> x.make(4, 0, 1, directory));
            full.keeps(BAD, x -> x.make(3, -1, 1, directory));
            full.keeps(BAD, x -> x.make(3, 4, 1, directory));
            full.keeps(BAD, x -> x.make(3, 0, -1, directory));
            full.keeps(BAD, x -> x.make(3, 0, 100, directory));
            full.keeps(NOTHING, x -> x.make(3, 3, 1, directory));
            full.keeps(WRONG, x -> x.make(3, 2, 1, directory));
            full.keeps(THERE, x -> x.make(3, 0, 50, directory));
            full.keeps(THERE, x -> x.make(3, 1, 20, directory));
            full.keeps(FULL, x -> x.make(3, 0, 1, directory));
        }
    }

    /** "Makes a node, a directory or a file without blocks", whatever was there before it. */
    private static void withoutBlocksOrEntries(Due due) {
        Edge erased = new Edge(due, "a full file erased", x -> {
            x.make(1, 0, 5, false);
            for (int cell = 0; cell < 32; cell++) {
                x.write(1, cell, 9);
            }
            x.open(1, 0, -1);
            x.erase(0, 5);
        });
        RealTree x = erased.changes(OK, y -> y.make(1, 0, 5, false));
        due.is("size(1)", x.size(1), 0);
        due.is("copies()", x.copies(), 0);
        for (int cell = 0; cell < 32; cell++) {
            due.is("read(1, " + cell + ")", x.read(1, cell), 0);
        }
        x = erased.changes(OK, y -> y.make(1, 0, 5, true));
        due.is("size(1)", x.size(1), 0);
        due.is("next(1, -1)", x.next(1, -1), NOTHING);
    }
}
