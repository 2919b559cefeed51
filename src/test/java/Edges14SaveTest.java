/** The sentences of promise 14, each at its bound and one step to each side of it. */
public final class Edges14SaveTest {
    private static final int BAD = ExtentFileTree.BAD;
    private static final int FULL = ExtentFileTree.FULL;
    private static final int OK = ExtentFileTree.OK;

    public static void main(String[] args) {
        Due due = new Due();
        anEmptyState(due);
        aFullState(due);
        nothingNew(due);
        handlesStay(due);
        crashesThatSaved(due);
        refusedCallsAreNoSavings(due);
        due.end();
    }

    /** "The saved state becomes what the present one is.": only the top. */
    private static void anEmptyState(Due due) {
        Edge fresh = new Edge(due, "a new object", x -> { });
        RealTree x = fresh.changes(1, y -> y.save());
        due.is("nodes()", x.nodes(), 1);
        due.is("copies()", x.copies(), 0);
        Edge emptied = new Edge(due, "a file saved and erased", y -> {
            y.make(1, 0, 5, false);
            y.write(1, 0, 1);
            y.crash(1);
            y.erase(0, 5);
        });
        x = emptied.changes(2, y -> y.save());
        due.is("copies()", x.copies(), 0);
        due.is("crash(0)", x.crash(0), 2);
        due.is("nodes()", x.nodes(), 1);
        due.is("size(0)", x.size(0), 0);
    }

    /** Sixteen nodes and twenty-four copies, so many of them saved before. */
    private static void full(Tree x, int savedBefore) {
        for (int h = 1; h <= 3; h++) {
            x.make(h, 0, h, false);
        }
        for (int i = 0; i < 24; i++) {
            if (i == savedBefore) {
                x.save();
            }
            x.write(1 + i / 8, i % 8 * 4, 100 + i);
        }
        for (int name = 10; name < 22; name++) {
            x.make(3, 0, name, name % 2 == 0);
        }
    }

    private static void aFullState(Due due) {
        for (int saved : new int[] {0, 1, 23, 24}) {
            Edge at = new Edge(due, "full, " + saved + " copies saved before", x -> {
                full(x, saved);
                if (saved == 24) {
                    x.save();
                }
            });
            RealTree x = at.changes(2, y -> y.save());
            due.is("copies()", x.copies(), 24);
            due.is("nodes()", x.nodes(), 16);
            due.is("write(1, 0, 9), saved now", x.write(1, 0, 9), FULL);
            due.is("crash(0)", x.crash(0), 2);
            due.is("nodes()", x.nodes(), 16);
            due.is("copies()", x.copies(), 24);
            for (int i = 0; i < 24; i++) {
                x.open(1, 0, 1 + i / 8);
                due.is("cell of block " + i, x.read(1, i % 8 * 4), 100 + i);
            }
        }
    }

    /** A saving with nothing new is one too. */
    private static void nothingNew(Due due) {
        RealTree x = new RealTree();
        x.make(1, 0, 5, false);
        x.write(1, 0, 1);
        for (int count = 1; count <= 20; count++) {
            due.is("save()", x.save(), count);
            due.is("copies()", x.copies(), 1);
            due.is("nodes()", x.nodes(), 2);
            due.is("read(1, 0)", x.read(1, 0), 1);
        }
    }

    private static void handlesStay(Due due) {
        Edge at = new Edge(due, "handles at a directory, a file and nothing", x -> {
            x.make(1, 0, 5, true);
            x.make(2, 1, 6, false);
            x.write(2, 31, 7);
        });
        RealTree x = at.changes(1, y -> y.save());
        due.is("kind(0)", x.kind(0), 1);
        due.is("kind(1)", x.kind(1), 1);
        due.is("kind(2)", x.kind(2), 2);
        due.is("kind(3)", x.kind(3), 0);
        due.is("read(2, 31)", x.read(2, 31), 7);
        due.is("size(1)", x.size(1), 1);
        due.is("write(2, 31, 8)", x.write(2, 31, 8), OK);
        due.is("copies()", x.copies(), 2);
    }

    /** "Answers how many savings there have been, crashes that saved among them." */
    private static void crashesThatSaved(Due due) {
        for (int when = -1; when <= 3; when++) {
            int time = when;
            Edge first = new Edge(due, "crash(" + when + ") before", x -> x.crash(time));
            first.changes(when == 1 ? 2 : 1, x -> x.save());
            Edge between = new Edge(due, "save() and crash(" + when + ") before", x -> {
                x.save();
                x.crash(time);
            });
            between.changes(when == 1 ? 3 : 2, x -> x.save());
            Edge behind = new Edge(due, "crash(" + when + ") and save() before", x -> {
                x.crash(time);
                x.save();
            });
            behind.changes(when == 1 ? 3 : 2, x -> x.save());
        }
    }

    private static void refusedCallsAreNoSavings(Due due) {
        RealTree x = new RealTree();
        due.is("crash(-1)", x.crash(-1), BAD);
        due.is("crash(3)", x.crash(3), BAD);
        due.is("write(0, 0, 0)", x.write(0, 0, 0), ExtentFileTree.WRONG);
        due.is("save()", x.save(), 1);
        due.is("crash(3)", x.crash(3), BAD);
        due.is("save()", x.save(), 2);
    }
}
