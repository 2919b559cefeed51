/** The sentence of promise 13, at its bounds and one step to each side of them. */
public final class Edges13NodesTest {
    private static final int FULL = ExtentFileTree.FULL;

    public static void main(String[] args) {
        Due due = new Due();
        from1To16(due);
        atAnyDepth(due);
        refusedNodes(due);
        ofThePresentState(due);
        due.end();
    }

    private static void wide(Tree x, int count) {
        for (int name = 1; name < count; name++) {
            x.make(1, 0, name, name % 2 == 0);
        }
    }

    private static void deep(Tree x, int count) {
        x.open(1, 0, -1);
        for (int i = 1; i < count; i++) {
            x.make(1, 1, 5, true);
        }
    }

    /** "The number of nodes.", "the top among them" */
    private static void from1To16(Due due) {
        for (int count = 1; count <= 16; count++) {
            int there = count;
            Edge at = new Edge(due, count + " nodes", x -> {
                wide(x, there);
                x.open(1, 0, -1);
            });
            at.keeps(count, x -> x.nodes());
            if (count > 1) {
                due.is("nodes(), one erased", at.changes(0, x -> x.erase(0, there - 1)).nodes(), count - 1);
            }
            if (count < 16) {
                due.is("nodes(), one made", at.changes(0, x -> x.make(1, 0, 50, true)).nodes(), count + 1);
            }
        }
    }

    private static void atAnyDepth(Due due) {
        for (int count : new int[] {1, 2, 15, 16}) {
            Edge at = new Edge(due, count + " nodes in a chain", x -> deep(x, count));
            at.keeps(count, x -> x.nodes());
            if (count == 16) {
                at.keeps(FULL, x -> x.make(2, 1, 5, true));
                at.keeps(FULL, x -> x.make(2, 0, 6, false));
            }
        }
    }

    private static void refusedNodes(Due due) {
        RealTree x = new RealTree();
        wide(x, 16);
        for (int i = 0; i < 20; i++) {
            due.is("make, refused", x.make(1, 0, 50 + i, true), FULL);
            due.is("nodes()", x.nodes(), 16);
        }
        due.is("size(0)", x.size(0), 15);
    }

    /** The saved nodes that the present state has no more are not counted, nor are two states counted together. */
    private static void ofThePresentState(Due due) {
        Edge more = new Edge(due, "16 nodes when saved, 15 now", x -> {
            wide(x, 16);
            x.save();
            x.erase(0, 1);
        });
        more.keeps(15, x -> x.nodes());
        due.is("nodes(), crashed", more.changes(1, x -> x.crash(0)).nodes(), 16);
        due.is("nodes(), crashed and saved", more.changes(2, x -> x.crash(1)).nodes(), 15);
        Edge less = new Edge(due, "15 nodes when saved, 16 now", x -> {
            wide(x, 15);
            x.save();
            x.make(1, 0, 50, true);
        });
        less.keeps(16, x -> x.nodes());
        due.is("nodes(), crashed", less.changes(1, x -> x.crash(2)).nodes(), 15);
        due.is("nodes(), crashed and saved", less.changes(2, x -> x.crash(1)).nodes(), 16);
        Edge none = new Edge(due, "1 node when saved, 16 now", x -> {
            x.save();
            wide(x, 16);
        });
        none.keeps(16, x -> x.nodes());
        due.is("nodes(), crashed", none.changes(1, x -> x.crash(0)).nodes(), 1);
    }
}
