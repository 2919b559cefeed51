/** The sentences of promise 15, each at its bound and one step to each side of it. */
public final class Edges15CrashTest {
    private static final int BAD = ExtentFileTree.BAD;
    private static final int FULL = ExtentFileTree.FULL;
    private static final int NOTHING = ExtentFileTree.NOTHING;
    private static final int OK = ExtentFileTree.OK;
    private static final int[] NO_TIME = {Integer.MIN_VALUE, -2, -1, 3, 4, Integer.MAX_VALUE};

    public static void main(String[] args) {
        Due due = new Due();
        Edge at = new Edge(due, "the scene", Edges15CrashTest::scene);
        timesFrom0To2(due, at);
        beforeAndAmidTheLastWrite(due, at);
        rightAfterTheLastWrite(due, at);
        nothingSavedYet(due);
        nothingChanged(due);
        aFullState(due);
        handlesReferToNothing(due);
        crashesInARow(due);
        due.end();
    }

    /**
     * Saved: the directory 5 with the file 6, which holds 10 in cell 0 and 11 in cell 4. Since then cell 0 became 20,
     * block 1 was cut, block 7 holds 21, the file became the top's entry 7, the directory 8 was made.
     */
    private static void scene(Tree x) {
        x.make(1, 0, 5, true);
        x.make(2, 1, 6, false);
        x.write(2, 0, 10);
        x.write(2, 4, 11);
        x.save();
        x.write(2, 0, 20);
        x.cut(2, 1);
        x.write(2, 31, 21);
        x.rename(1, 6, 0, 7);
        x.make(3, 1, 8, true);
    }

    /** "when outside 0..2: BAD" */
    private static void timesFrom0To2(Due due, Edge at) {
        for (int when : NO_TIME) {
            at.keeps(BAD, x -> x.crash(when));
        }
        due.is("copies(), when is 0", at.changes(1, x -> x.crash(0)).copies(), 2);
        due.is("copies(), when is 1", at.changes(2, x -> x.crash(1)).copies(), 2);
        due.is("copies(), when is 2", at.changes(1, x -> x.crash(2)).copies(), 2);
        Edge fresh = new Edge(due, "a new object", x -> { });
        for (int when : NO_TIME) {
            fresh.keeps(BAD, x -> x.crash(when));
        }
        fresh.keeps(0, x -> x.crash(0));
        fresh.changes(1, x -> x.crash(1));
        fresh.keeps(0, x -> x.crash(2));
    }

    /** "0: before the last write of a saving"; "2: in the middle of that write, which is spoiled" */
    private static void beforeAndAmidTheLastWrite(Due due, Edge at) {
        for (int when = 0; when <= 2; when += 2) {
            int time = when;
            RealTree x = at.changes(1, y -> y.crash(time));
            due.is("nodes()", x.nodes(), 3);
            due.is("size(0)", x.size(0), 1);
            due.is("open(1, 0, 7)", x.open(1, 0, 7), NOTHING);
            due.is("open(1, 0, 5)", x.open(1, 0, 5), OK);
            due.is("size(1)", x.size(1), 1);
            due.is("open(2, 1, 6)", x.open(2, 1, 6), OK);
            due.is("size(2)", x.size(2), 2);
            due.is("read(2, 0)", x.read(2, 0), 10);
            due.is("read(2, 4)", x.read(2, 4), 11);
            due.is("read(2, 31)", x.read(2, 31), 0);
            due.is("save()", x.save(), 2);
        }
    }

    /** "1: right after it, so that the saved state becomes what the present one is" */
    private static void rightAfterTheLastWrite(Due due, Edge at) {
        RealTree x = at.changes(2, y -> y.crash(1));
        for (int round = 0; round < 2; round++) {
            due.is("nodes()", x.nodes(), 4);
            due.is("size(0)", x.size(0), 2);
            due.is("open(1, 0, 5)", x.open(1, 0, 5), OK);
            due.is("next(1, -1)", x.next(1, -1), 8);
            due.is("open(2, 0, 7)", x.open(2, 0, 7), OK);
            due.is("size(2)", x.size(2), 2);
            due.is("read(2, 0)", x.read(2, 0), 20);
            due.is("read(2, 4)", x.read(2, 4), 0);
            due.is("read(2, 31)", x.read(2, 31), 21);
            due.is("copies()", x.copies(), 2);
            due.is("crash(0), saved it is", x.crash(0), 2);
        }
        due.is("save()", x.save(), 3);
    }

    private static void nothingSavedYet(Due due) {
        Edge at = new Edge(due, "a file made, nothing saved", x -> {
            x.make(1, 0, 5, false);
            x.write(1, 0, 1);
        });
        for (int when = 0; when <= 2; when++) {
            int time = when;
            int answer = when == 1 ? 1 : 0;
            RealTree x = at.changes(answer, y -> y.crash(time));
            due.is("nodes()", x.nodes(), 1 + answer);
            due.is("copies()", x.copies(), answer);
            due.is("next(0, -1)", x.next(0, -1), when == 1 ? 5 : NOTHING);
        }
    }

    /** Without a change since the saving, only the handles and the number of savings tell of a crash. */
    private static void nothingChanged(Due due) {
        Edge at = new Edge(due, "all saved, no handle used", x -> {
            scene(x);
            x.crash(1);
        });
        at.keeps(2, x -> x.crash(0));
        at.keeps(2, x -> x.crash(2));
        due.is("copies()", at.changes(3, x -> x.crash(1)).copies(), 2);
    }

    private static void full(Tree x, int saved) {
        for (int h = 1; h <= 3; h++) {
            x.make(h, 0, h, false);
        }
        for (int i = 0; i < 24; i++) {
            if (i == saved) {
                x.save();
            }
            x.write(1 + i / 8, i % 8 * 4, 100 + i);
        }
        if (saved == 24) {
            x.save();
        }
        for (int name = 10; name < 22; name++) {
            x.make(3, 0, name, name % 2 == 0);
        }
    }

    private static void aFullState(Due due) {
        for (int saved : new int[] {0, 1, 23, 24}) {
            Edge at = new Edge(due, "16 nodes, 24 copies, " + saved + " of them saved", x -> full(x, saved));
            for (int when = 0; when <= 2; when++) {
                int time = when;
                int left = when == 1 ? 24 : saved;
                RealTree x = at.changes(when == 1 ? 2 : 1, y -> y.crash(time));
                due.is("copies()", x.copies(), left);
                due.is("nodes()", x.nodes(), when == 1 ? 16 : 4);
                due.is("open(1, 0, 3)", x.open(1, 0, 3), OK);
                due.is("write(1, 31, 9)", x.write(1, 31, 9), left == 24 ? FULL : OK);
            }
        }
    }

    /** "and the handles 1 to 3 refer to nothing" */
    private static void handlesReferToNothing(Due due) {
        for (int h = 1; h <= 3; h++) {
            for (boolean directory : new boolean[] {true, false}) {
                int handle = h;
                Edge at = new Edge(due, "handle " + h + " at a saved node", x -> {
                    x.make(handle, 0, 5, directory);
                    x.save();
                });
                for (int when = 0; when <= 2; when++) {
                    int time = when;
                    RealTree x = at.changes(when == 1 ? 2 : 1, y -> y.crash(time));
                    due.is("kind(" + h + ")", x.kind(h), 0);
                    due.is("size(" + h + ")", x.size(h), 0);
                    due.is("kind(0)", x.kind(0), 1);
                    due.is("next(0, -1)", x.next(0, -1), 5);
                    due.is("erase(0, 5)", x.erase(0, 5), OK);
                }
            }
        }
        Edge top = new Edge(due, "handles 1 to 3 at the top", x -> {
            for (int h = 1; h <= 3; h++) {
                x.open(h, 0, -1);
            }
        });
        RealTree x = top.changes(0, y -> y.crash(0));
        for (int h = 1; h <= 3; h++) {
            due.is("kind(" + h + ")", x.kind(h), 0);
        }
        due.is("kind(0)", x.kind(0), 1);
    }

    /** "Else answers as save does." */
    private static void crashesInARow(Due due) {
        for (int first = 0; first <= 2; first++) {
            for (int second = 0; second <= 2; second++) {
                for (int third = 0; third <= 2; third++) {
                    int[] times = {first, second, third};
                    RealTree x = new RealTree();
                    int savings = 0;
                    for (int round = 0; round < 3; round++) {
                        x.make(1, 0, 10 + round, true);
                        savings += times[round] == 1 ? 1 : 0;
                        due.is("crash(" + times[round] + ")", x.crash(times[round]), savings);
                        due.is("nodes()", x.nodes(), 1 + savings);
                    }
                    due.is("save()", x.save(), savings + 1);
                }
            }
        }
    }
}
