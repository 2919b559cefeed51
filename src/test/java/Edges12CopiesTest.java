/** The sentence of promise 12, at its bounds and one step to each side of them. */
public final class Edges12CopiesTest {
    private static final int FULL = ExtentFileTree.FULL;

    public static void main(String[] args) {
        Due due = new Due();
        inThePresentState(due);
        inBothStates(due);
        inTheSavedState(due);
        inOneStateEach(due);
        inNeitherState(due);
        due.end();
    }

    /** Files 1, 2 and 3 at the handles 1, 2 and 3, with so many blocks in all. */
    private static void blocks(Tree x, int count) {
        for (int h = 1; h <= 3; h++) {
            x.make(h, 0, h, false);
        }
        for (int i = 0; i < count; i++) {
            x.write(1 + i / 8, i % 8 * 4, i);
        }
    }

    private static void cutAll(Tree x) {
        for (int h = 1; h <= 3; h++) {
            x.cut(h, 0);
        }
    }

    /** "The number of copies that are in the present ... state" */
    private static void inThePresentState(Due due) {
        for (int count : new int[] {0, 1, 2, 8, 9, 16, 17, 23, 24}) {
            new Edge(due, count + " copies", x -> blocks(x, count)).keeps(count, x -> x.copies());
        }
    }

    /** A copy in both states is one copy. */
    private static void inBothStates(Due due) {
        for (int count : new int[] {0, 1, 23, 24}) {
            new Edge(due, count + " copies, saved", x -> {
                blocks(x, count);
                x.save();
            }).keeps(count, x -> x.copies());
            new Edge(due, count + " copies, saved by a crash", x -> {
                blocks(x, count);
                x.crash(1);
            }).keeps(count, x -> x.copies());
        }
    }

    /** "or the saved state" */
    private static void inTheSavedState(Due due) {
        for (int count : new int[] {0, 1, 23, 24}) {
            new Edge(due, count + " copies, saved and cut", x -> {
                blocks(x, count);
                x.save();
                cutAll(x);
            }).keeps(count, x -> x.copies());
            Edge erased = new Edge(due, count + " copies, saved and erased", x -> {
                blocks(x, count);
                x.save();
                for (int h = 1; h <= 3; h++) {
                    x.open(h, 0, -1);
                    x.erase(0, h);
                }
            });
            erased.keeps(count, x -> x.copies());
            due.is("copies(), erased in both", erased.changes(2, x -> x.save()).copies(), 0);
        }
    }

    /** A block that was written since the saving has a copy in each state; no write gets beyond 24. */
    private static void inOneStateEach(Due due) {
        for (int count : new int[] {1, 11, 12}) {
            Edge at = new Edge(due, count + " blocks, saved and written anew", x -> {
                blocks(x, count);
                x.save();
                for (int i = 0; i < count; i++) {
                    x.write(1 + i / 8, i % 8 * 4, 50 + i);
                }
            });
            at.keeps(2 * count, x -> x.copies());
            due.is("copies(), saved again", at.changes(2, x -> x.save()).copies(), count);
            due.is("copies(), crashed", at.changes(1, x -> x.crash(0)).copies(), count);
        }
        Edge thirteen = new Edge(due, "13 blocks, saved, 11 written anew", x -> {
            blocks(x, 13);
            x.save();
            for (int i = 0; i < 11; i++) {
                x.write(1 + i / 8, i % 8 * 4, 50 + i);
            }
        });
        thirteen.keeps(24, x -> x.copies());
        thirteen.keeps(FULL, x -> x.write(2, 12, 9));
    }

    /** A copy that is in no state any more doesn't count. */
    private static void inNeitherState(Due due) {
        for (int count : new int[] {1, 23, 24}) {
            Edge at = new Edge(due, count + " copies, not saved", x -> blocks(x, count));
            due.is("copies(), crashed", at.changes(0, x -> x.crash(0)).copies(), 0);
            due.is("copies(), crashed", at.changes(0, x -> x.crash(2)).copies(), 0);
            due.is("copies(), one file cut", at.changes(Math.min(count, 8), x -> x.cut(1, 0)).copies(),
                    count - Math.min(count, 8));
        }
        Edge cut = new Edge(due, "24 copies, saved and cut", x -> {
            blocks(x, 24);
            x.save();
            cutAll(x);
        });
        due.is("copies(), saved again", cut.changes(2, x -> x.save()).copies(), 0);
        due.is("copies(), crashed back", cut.changes(1, x -> x.crash(0)).copies(), 24);
        due.is("copies(), crashed and saved", cut.changes(2, x -> x.crash(1)).copies(), 0);
    }
}
