/** The sentences of promise 5, each at its bound and one step to each side of it. */
public final class Edges05RenameTest {
    private static final int BAD = ExtentFileTree.BAD;
    private static final int NOTHING = ExtentFileTree.NOTHING;
    private static final int WRONG = ExtentFileTree.WRONG;
    private static final int THERE = ExtentFileTree.THERE;
    private static final int CIRCLE = ExtentFileTree.CIRCLE;
    private static final int OK = ExtentFileTree.OK;
    private static final int[] NO_HANDLE = {Integer.MIN_VALUE, -2, -1, 4, 5, Integer.MAX_VALUE};
    private static final int[] NO_NAME = {Integer.MIN_VALUE, -2, -1, 100, 101, Integer.MAX_VALUE};

    public static void main(String[] args) {
        Due due = new Due();
        Edge at = new Edge(due, "the scene", Edges05RenameTest::scene);
        movesTheEntry(due, at);
        dAndEFrom0To3(due, at);
        namesFrom0To99(due, at);
        othersFrom0To99(due, at);
        nothing(due, at);
        aFile(due, at);
        noSuchEntry(due, at);
        anEntryWithTheOtherName(due, at);
        circlesInAChain(due);
        noCircles(due);
        circlesAreOfThePresentState(due);
        theFirstReasonAnswers(due, at);
        due.end();
    }

    /**
     * The top has the files 0, 1, 98 and 99 and the directory 50, which has the file 20 and the directory 30. Handle 1
     * is at the directory 50, handle 2 at its file 20, handle 3 at nothing. Cell 0 of every file tells which one it is.
     */
    private static void scene(Tree x) {
        for (int name : new int[] {1, 98, 99, 0}) {
            x.make(3, 0, name, false);
            x.write(3, 0, name);
        }
        x.make(1, 0, 50, true);
        x.make(3, 1, 30, true);
        x.make(2, 1, 20, false);
        x.write(2, 0, 20);
        x.crash(1);
        x.open(1, 0, 50);
        x.open(2, 1, 20);
    }

    /** "Makes the entry with a name of the directory of handle d an entry of the directory of handle e" */
    private static void movesTheEntry(Due due, Edge at) {
        RealTree x = at.changes(OK, y -> y.rename(0, 98, 1, 7));
        due.is("size(0)", x.size(0), 4);
        due.is("size(1)", x.size(1), 3);
        due.is("nodes()", x.nodes(), 8);
        due.is("copies()", x.copies(), 5);
        due.is("open(3, 0, 98)", x.open(3, 0, 98), NOTHING);
        due.is("open(3, 1, 7)", x.open(3, 1, 7), OK);
        due.is("read(3, 0)", x.read(3, 0), 98);
        x = at.changes(OK, y -> y.rename(0, 98, 0, 97));
        due.is("size(0)", x.size(0), 5);
        due.is("next(0, 50)", x.next(0, 50), 97);
        due.is("next(0, 97)", x.next(0, 97), 99);
        x = at.changes(OK, y -> y.rename(1, 20, 0, 20));
        due.is("read(2, 0), the handle goes with it", x.read(2, 0), 20);
        due.is("erase(0, 20)", x.erase(0, 20), ExtentFileTree.BUSY);
    }

    /** "d or e outside 0..3 ...: BAD" */
    private static void dAndEFrom0To3(Due due, Edge at) {
        for (int handle : NO_HANDLE) {
            at.keeps(BAD, x -> x.rename(handle, 0, 0, 7));
            at.keeps(BAD, x -> x.rename(0, 0, handle, 7));
            at.keeps(BAD, x -> x.rename(handle, 0, handle, 7));
        }
        for (int from = 0; from <= 3; from++) {
            for (int to = 0; to <= 3; to++) {
                int d = from;
                int e = to;
                if (d != 0 && e != 0 && d != e) {
                    continue;
                }
                Edge there = new Edge(due, "handles " + d + " and " + e + " at a directory", x -> {
                    scene(x);
                    x.open(3, 0, -1);
                    if (d != 0) {
                        x.open(d, 0, 50);
                    }
                    if (e != 0) {
                        x.open(e, 0, 50);
                    }
                });
                int name = d == 0 ? 0 : 20;
                RealTree x = there.changes(OK, y -> y.rename(d, name, e, 7));
                due.is("open(3, " + e + ", 7)", x.open(3, e, 7), OK);
                due.is("read(3, 0)", x.read(3, 0), name);
            }
        }
    }

    /** "name ... outside 0..99: BAD" */
    private static void namesFrom0To99(Due due, Edge at) {
        for (int name : NO_NAME) {
            at.keeps(BAD, x -> x.rename(0, name, 0, 7));
            at.keeps(BAD, x -> x.rename(0, name, 1, 7));
            at.keeps(BAD, x -> x.rename(1, name, 0, 7));
        }
        for (int name : new int[] {0, 1, 98, 99}) {
            RealTree x = at.changes(OK, y -> y.rename(0, name, 1, 7));
            due.is("open(3, 0, " + name + ")", x.open(3, 0, name), NOTHING);
            due.is("open(3, 1, 7)", x.open(3, 1, 7), OK);
            due.is("read(3, 0)", x.read(3, 0), name);
        }
    }

    /** "or other outside 0..99: BAD" */
    private static void othersFrom0To99(Due due, Edge at) {
        for (int other : NO_NAME) {
            at.keeps(BAD, x -> x.rename(0, 0, 0, other));
            at.keeps(BAD, x -> x.rename(0, 0, 1, other));
            at.keeps(BAD, x -> x.rename(1, 20, 1, other));
        }
        for (int other : new int[] {0, 1, 98, 99}) {
            RealTree x = at.changes(OK, y -> y.rename(1, 20, 1, other));
            due.is("open(3, 1, 20)", x.open(3, 1, 20), NOTHING);
            due.is("open(3, 1, " + other + ")", x.open(3, 1, other), OK);
            due.is("read(3, 0)", x.read(3, 0), 20);
        }
    }

    /** "handle d or e refers to nothing: NOTHING" */
    private static void nothing(Due due, Edge at) {
        at.keeps(NOTHING, x -> x.rename(3, 0, 0, 7));
        at.keeps(NOTHING, x -> x.rename(0, 0, 3, 7));
        at.keeps(NOTHING, x -> x.rename(3, 0, 3, 7));
        at.keeps(NOTHING, x -> x.rename(3, 20, 1, 7));
        at.keeps(NOTHING, x -> x.rename(1, 20, 3, 7));
        Edge there = new Edge(due, "handle 3 at the top", x -> {
            scene(x);
            x.open(3, 0, -1);
        });
        there.changes(OK, x -> x.rename(3, 0, 0, 7));
        there.changes(OK, x -> x.rename(0, 0, 3, 7));
        there.changes(OK, x -> x.rename(3, 0, 3, 7));
    }

    /** "to a file: WRONG" */
    private static void aFile(Due due, Edge at) {
        at.keeps(WRONG, x -> x.rename(2, 0, 0, 7));
        at.keeps(WRONG, x -> x.rename(0, 0, 2, 7));
        at.keeps(WRONG, x -> x.rename(2, 0, 2, 7));
        at.keeps(WRONG, x -> x.rename(2, 20, 1, 7));
        at.keeps(WRONG, x -> x.rename(1, 20, 2, 7));
        Edge there = new Edge(due, "handle 2 at the directory 30", x -> {
            scene(x);
            x.open(2, 1, 30);
        });
        there.changes(OK, x -> x.rename(0, 0, 2, 7));
        there.changes(OK, x -> x.rename(1, 20, 2, 7));
    }

    /** "there is no such entry: NOTHING" */
    private static void noSuchEntry(Due due, Edge at) {
        for (int name : new int[] {2, 20, 49, 51, 97}) {
            at.keeps(NOTHING, x -> x.rename(0, name, 0, 7));
            at.keeps(NOTHING, x -> x.rename(0, name, 1, 7));
        }
        for (int name : new int[] {0, 19, 21, 50, 99}) {
            at.keeps(NOTHING, x -> x.rename(1, name, 0, 7));
        }
        Edge gone = new Edge(due, "the entry renamed before", x -> {
            scene(x);
            x.rename(0, 1, 0, 2);
        });
        gone.keeps(NOTHING, x -> x.rename(0, 1, 0, 7));
        gone.changes(OK, x -> x.rename(0, 2, 0, 1));
    }

    /** "the directory of e has an entry with the name other: THERE" */
    private static void anEntryWithTheOtherName(Due due, Edge at) {
        at.keeps(THERE, x -> x.rename(0, 0, 0, 50));
        at.keeps(THERE, x -> x.rename(0, 0, 0, 0));
        at.keeps(THERE, x -> x.rename(0, 99, 0, 99));
        at.keeps(THERE, x -> x.rename(0, 0, 1, 20));
        at.keeps(THERE, x -> x.rename(1, 20, 0, 98));
        at.keeps(THERE, x -> x.rename(1, 20, 1, 20));
        at.keeps(THERE, x -> x.rename(1, 20, 1, 30));
        for (int other : new int[] {19, 21, 29, 31, 0, 50}) {
            due.is("size(1)", at.changes(OK, x -> x.rename(0, 0, 1, other)).size(1), 3);
        }
        for (int other : new int[] {49, 51, 97, 20}) {
            due.is("size(0)", at.changes(OK, x -> x.rename(0, 0, 0, other)).size(0), 5);
        }
    }

    /** A chain of directories, each the entry 5 of the one above; handle 1 is so many steps below the first of them. */
    private static void chain(Tree x, int length, int steps) {
        x.make(2, 0, 5, true);
        for (int i = 1; i < length; i++) {
            x.make(2, 2, 5, true);
        }
        x.open(1, 0, 5);
        for (int i = 0; i < steps; i++) {
            x.open(1, 1, 5);
        }
    }

    /** "the node is the directory of e, or one comes from it to the directory of e over entries: CIRCLE" */
    private static void circlesInAChain(Due due) {
        for (int steps = 0; steps <= 14; steps++) {
            int below = steps;
            Edge at = new Edge(due, "handle 1 " + steps + " steps below", x -> chain(x, 15, below));
            at.keeps(CIRCLE, x -> x.rename(0, 5, 1, 7));
            if (steps > 0) {
                // The directory at handle 1 may not become an entry of its own, but it may go up to the top.
                Edge above = new Edge(due, "handle 3 one above handle 1", x -> {
                    chain(x, 15, below);
                    x.open(3, 0, 5);
                    for (int i = 1; i < below; i++) {
                        x.open(3, 3, 5);
                    }
                });
                above.keeps(CIRCLE, x -> x.rename(3, 5, 1, 7));
                RealTree x = above.changes(OK, y -> y.rename(3, 5, 0, 7));
                due.is("rename(0, 5, 1, 8), no circle any more", x.rename(0, 5, 1, 8), OK);
                due.is("size(0)", x.size(0), 1);
                due.is("nodes()", x.nodes(), 16);
            }
        }
    }

    private static void noCircles(Due due) {
        Edge at = new Edge(due, "directories 5, 6 and 5 in 6, a file 8", x -> {
            x.make(1, 0, 5, true);
            x.make(2, 0, 6, true);
            x.make(3, 2, 5, true);
            x.make(3, 0, 8, false);
            x.open(3, 2, 5);
        });
        RealTree x = at.changes(OK, y -> y.rename(0, 5, 2, 7));
        due.is("size(2), beside it", x.size(2), 2);
        due.is("size(3), two below", at.changes(OK, y -> y.rename(0, 5, 3, 7)).size(3), 1);
        due.is("size(3), a file", at.changes(OK, y -> y.rename(0, 8, 3, 7)).size(3), 1);
        at.changes(OK, y -> y.rename(2, 5, 0, 7));
        at.changes(OK, y -> y.rename(2, 5, 1, 7));
        at.changes(OK, y -> y.rename(2, 5, 2, 7));
        at.changes(OK, y -> y.rename(0, 6, 1, 7));
        at.keeps(CIRCLE, y -> y.rename(0, 6, 2, 7));
        at.keeps(CIRCLE, y -> y.rename(0, 6, 3, 7));
        at.keeps(CIRCLE, y -> y.rename(2, 5, 3, 7));
    }

    /** What the saved state says of the way down doesn't count, neither for a circle nor against one. */
    private static void circlesAreOfThePresentState(Due due) {
        Edge apart = new Edge(due, "6 in 5 when saved, beside it now", x -> {
            x.make(1, 0, 5, true);
            x.make(2, 1, 6, true);
            x.save();
            x.rename(1, 6, 0, 6);
        });
        due.is("size(2)", apart.changes(OK, x -> x.rename(0, 5, 2, 7)).size(2), 1);
        Edge within = new Edge(due, "6 beside 5 when saved, in it now", x -> {
            x.make(1, 0, 5, true);
            x.make(2, 0, 6, true);
            x.save();
            x.rename(0, 6, 1, 6);
        });
        within.keeps(CIRCLE, x -> x.rename(0, 5, 2, 7));
    }

    /** "Tested in this order" */
    private static void theFirstReasonAnswers(Due due, Edge at) {
        for (int name : NO_NAME) {
            at.keeps(BAD, x -> x.rename(3, name, 0, 7));
            at.keeps(BAD, x -> x.rename(0, name, 3, 7));
            at.keeps(BAD, x -> x.rename(2, name, 0, 7));
            at.keeps(BAD, x -> x.rename(0, name, 2, 7));
            at.keeps(BAD, x -> x.rename(0, name, 0, 50));
            at.keeps(BAD, x -> x.rename(3, 0, 0, name));
            at.keeps(BAD, x -> x.rename(0, 0, 3, name));
            at.keeps(BAD, x -> x.rename(2, 0, 0, name));
            at.keeps(BAD, x -> x.rename(0, 0, 2, name));
            at.keeps(BAD, x -> x.rename(0, 2, 0, name));
            at.keeps(BAD, x -> x.rename(0, 50, 1, name));
        }
        for (int handle : NO_HANDLE) {
            at.keeps(BAD, x -> x.rename(handle, 0, 3, 7));
            at.keeps(BAD, x -> x.rename(3, 0, handle, 7));
            at.keeps(BAD, x -> x.rename(handle, 0, 2, 7));
            at.keeps(BAD, x -> x.rename(2, 0, handle, 7));
            at.keeps(BAD, x -> x.rename(handle, 0, 0, 50));
            at.keeps(BAD, x -> x.rename(0, 2, handle, 7));
        }
        at.keeps(NOTHING, x -> x.rename(2, 0, 3, 7));
        at.keeps(NOTHING, x -> x.rename(3, 0, 2, 7));
        at.keeps(NOTHING, x -> x.rename(3, 0, 0, 50));
        at.keeps(NOTHING, x -> x.rename(0, 2, 3, 7));
        at.keeps(WRONG, x -> x.rename(2, 0, 0, 50));
        at.keeps(WRONG, x -> x.rename(0, 2, 2, 7));
        at.keeps(NOTHING, x -> x.rename(0, 2, 0, 50));
        at.keeps(NOTHING, x -> x.rename(0, 2, 1, 20));
        at.keeps(THERE, x -> x.rename(0, 50, 1, 20));
        at.keeps(THERE, x -> x.rename(0, 50, 1, 30));
        at.keeps(CIRCLE, x -> x.rename(0, 50, 1, 31));
        Edge below = new Edge(due, "handle 2 at the directory 30 with an entry", x -> {
            scene(x);
            x.open(2, 1, 30);
            x.make(3, 2, 40, false);
        });
        below.keeps(THERE, x -> x.rename(0, 50, 2, 40));
        below.keeps(CIRCLE, x -> x.rename(0, 50, 2, 39));
        below.keeps(CIRCLE, x -> x.rename(0, 50, 2, 41));
    }
}
