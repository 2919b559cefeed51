/** The sentences of promise 10, each at its bound and one step to each side of it. */
public final class Edges10NextTest {
    private static final int BAD = ExtentFileTree.BAD;
    private static final int NOTHING = ExtentFileTree.NOTHING;
    private static final int WRONG = ExtentFileTree.WRONG;
    private static final int[] NO_HANDLE = {Integer.MIN_VALUE, -2, -1, 4, 5, Integer.MAX_VALUE};
    private static final int[] ANY_INT = {Integer.MIN_VALUE, Integer.MIN_VALUE + 1, -2, -1, 0, 1, 49, 50, 98, 99, 100,
            Integer.MAX_VALUE - 1, Integer.MAX_VALUE};

    public static void main(String[] args) {
        Due due = new Due();
        Edge at = new Edge(due, "the scene", Edges10NextTest::scene);
        dFrom0To3(due, at);
        aboveAnyInt(at);
        everyNameThereMayBe(due);
        asManyEntriesAsThereMayBe(due);
        nothingOrAFile(at);
        noSuchName(due, at);
        theNamesOfThePresentState(due);
        theFirstReasonAnswers(at);
        due.end();
    }

    /** The top has 50, 0 and 99; the directory 50 has the file 20. Handle 1 at 50, 2 at the file 20, 3 at nothing. */
    private static void scene(Tree x) {
        x.make(1, 0, 99, false);
        x.make(1, 0, 0, false);
        x.make(1, 0, 50, true);
        x.make(2, 1, 20, false);
    }

    /** "d outside 0..3: BAD" */
    private static void dFrom0To3(Due due, Edge at) {
        for (int d : NO_HANDLE) {
            for (int name : ANY_INT) {
                at.keeps(BAD, x -> x.next(d, name));
            }
        }
        at.keeps(0, x -> x.next(0, -1));
        for (int d = 1; d <= 3; d++) {
            int handle = d;
            Edge there = new Edge(due, "handle " + d + " at the directory", x -> {
                scene(x);
                x.open(handle, 0, 50);
            });
            there.keeps(20, x -> x.next(handle, -1));
        }
    }

    /** "The smallest name above name (any int)" */
    private static void aboveAnyInt(Edge at) {
        for (int name : new int[] {Integer.MIN_VALUE, Integer.MIN_VALUE + 1, -100, -3, -2, -1}) {
            at.keeps(0, x -> x.next(0, name));
        }
        for (int name : new int[] {0, 1, 48, 49}) {
            at.keeps(50, x -> x.next(0, name));
        }
        for (int name : new int[] {50, 51, 97, 98}) {
            at.keeps(99, x -> x.next(0, name));
        }
        for (int name : new int[] {99, 100, 101, Integer.MAX_VALUE - 1, Integer.MAX_VALUE}) {
            at.keeps(NOTHING, x -> x.next(0, name));
        }
        for (int name : new int[] {Integer.MIN_VALUE, -1, 0, 18, 19}) {
            at.keeps(20, x -> x.next(1, name));
        }
        for (int name : new int[] {20, 21, 50, 99, Integer.MAX_VALUE}) {
            at.keeps(NOTHING, x -> x.next(1, name));
        }
    }

    private static void everyNameThereMayBe(Due due) {
        for (int name = 0; name <= 99; name++) {
            RealTree x = new RealTree();
            x.make(1, 0, name, true);
            due.is("next(0, smallest int)", x.next(0, Integer.MIN_VALUE), name);
            due.is("next(0, " + (name - 1) + ")", x.next(0, name - 1), name);
            due.is("next(0, " + name + ")", x.next(0, name), NOTHING);
            due.is("next(0, " + (name + 1) + ")", x.next(0, name + 1), NOTHING);
            due.is("next(0, greatest int)", x.next(0, Integer.MAX_VALUE), NOTHING);
        }
    }

    private static void asManyEntriesAsThereMayBe(Due due) {
        for (int step = -7; step <= 7; step += 14) {
            RealTree x = new RealTree();
            int first = step > 0 ? 1 : 99;
            for (int i = 0; i < 15; i++) {
                x.make(1, 0, first + i * step, i % 2 == 0);
            }
            int name = x.next(0, -1);
            due.is("the first name", name, 1);
            for (int i = 1; i < 15; i++) {
                name = x.next(0, name);
                due.is("name number " + i, name, 1 + 7 * i);
            }
            due.is("behind the last name", x.next(0, name), NOTHING);
        }
    }

    /** "handle d refers to nothing: NOTHING, to a file: WRONG" */
    private static void nothingOrAFile(Edge at) {
        for (int name : ANY_INT) {
            at.keeps(NOTHING, x -> x.next(3, name));
            at.keeps(WRONG, x -> x.next(2, name));
        }
    }

    /** "there is no such name: NOTHING" */
    private static void noSuchName(Due due, Edge at) {
        at.keeps(99, x -> x.next(0, 98));
        at.keeps(NOTHING, x -> x.next(0, 99));
        Edge empty = new Edge(due, "an empty directory with entries beside it", x -> {
            scene(x);
            x.make(3, 1, 30, true);
        });
        for (int name : ANY_INT) {
            empty.keeps(NOTHING, x -> x.next(3, name));
        }
        Edge fresh = new Edge(due, "a new object", x -> { });
        for (int name : ANY_INT) {
            fresh.keeps(NOTHING, x -> x.next(0, name));
        }
    }

    private static void theNamesOfThePresentState(Due due) {
        Edge at = new Edge(due, "10 and 20 when saved, 20 and 30 now", x -> {
            x.make(1, 0, 10, true);
            x.make(2, 0, 20, true);
            x.save();
            x.rename(0, 10, 0, 30);
        });
        at.keeps(20, x -> x.next(0, -1));
        at.keeps(30, x -> x.next(0, 20));
        at.keeps(NOTHING, x -> x.next(0, 30));
        RealTree x = at.changes(1, y -> y.crash(2));
        due.is("next(0, -1)", x.next(0, -1), 10);
        due.is("next(0, 20)", x.next(0, 20), NOTHING);
    }

    /** "Tested in this order" */
    private static void theFirstReasonAnswers(Edge at) {
        at.keeps(BAD, x -> x.next(4, 99));
        at.keeps(BAD, x -> x.next(-1, 99));
        at.keeps(NOTHING, x -> x.next(3, 99));
        at.keeps(WRONG, x -> x.next(2, 99));
        at.keeps(WRONG, x -> x.next(2, Integer.MAX_VALUE));
    }
}
