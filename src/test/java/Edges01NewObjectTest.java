/** Promise 1, "As said above.": every call on a new object, at its bounds and one step to each side of them. */
public final class Edges01NewObjectTest {
    private static final int BAD = ExtentFileTree.BAD;
    private static final int NOTHING = ExtentFileTree.NOTHING;
    private static final int WRONG = ExtentFileTree.WRONG;
    private static final int OK = ExtentFileTree.OK;

    public static void main(String[] args) {
        Due due = new Due();
        Edge at = new Edge(due, "a new object", x -> { });
        queries(at);
        handles(due, at);
        entries(at);
        cells(at);
        savings(due, at);
        anotherObject(due);
        due.end();
    }

    private static void queries(Edge at) {
        int[] kinds = {BAD, 1, 0, 0, 0, BAD};
        int[] sizes = {BAD, 0, 0, 0, 0, BAD};
        int[] nexts = {BAD, NOTHING, NOTHING, NOTHING, NOTHING, BAD};
        for (int h = -1; h <= 4; h++) {
            int handle = h;
            at.keeps(kinds[h + 1], x -> x.kind(handle));
            at.keeps(sizes[h + 1], x -> x.size(handle));
            at.keeps(nexts[h + 1], x -> x.next(handle, -1));
            at.keeps(nexts[h + 1], x -> x.next(handle, Integer.MIN_VALUE));
            at.keeps(0, x -> x.read(handle, 0));
            at.keeps(0, x -> x.read(handle, 31));
        }
        at.keeps(0, x -> x.copies());
        at.keeps(1, x -> x.nodes());
    }

    private static void handles(Due due, Edge at) {
        for (int h = -1; h <= 4; h++) {
            int handle = h;
            if (h < 1 || h > 3) {
                at.keeps(BAD, x -> x.open(handle, 0, -1));
                continue;
            }
            due.is("kind(" + h + ")", at.changes(OK, x -> x.open(handle, 0, -1)).kind(h), 1);
            at.keeps(NOTHING, x -> x.open(handle, 0, 0));
            at.keeps(NOTHING, x -> x.open(handle, 0, 99));
            at.keeps(NOTHING, x -> x.open(handle, handle, -1));
        }
    }

    private static void entries(Edge at) {
        for (int name : new int[] {0, 1, 98, 99}) {
            at.keeps(NOTHING, x -> x.erase(0, name));
            at.keeps(NOTHING, x -> x.erase(1, name));
            at.keeps(NOTHING, x -> x.rename(0, name, 0, name));
            at.keeps(NOTHING, x -> x.rename(0, name, 1, 5));
            at.changes(OK, x -> x.make(1, 0, name, true));
            at.keeps(NOTHING, x -> x.make(1, 1, name, true));
        }
        for (int name : new int[] {-1, 100}) {
            at.keeps(BAD, x -> x.erase(0, name));
            at.keeps(BAD, x -> x.rename(0, name, 0, 5));
            at.keeps(BAD, x -> x.make(1, 0, name, true));
        }
    }

    private static void cells(Edge at) {
        int[] answers = {BAD, WRONG, NOTHING, NOTHING, NOTHING, BAD};
        for (int h = -1; h <= 4; h++) {
            int handle = h;
            at.keeps(answers[h + 1], x -> x.write(handle, 0, 1));
            at.keeps(answers[h + 1], x -> x.write(handle, 31, 1));
            at.keeps(answers[h + 1], x -> x.cut(handle, 0));
            at.keeps(answers[h + 1], x -> x.cut(handle, 7));
            at.keeps(BAD, x -> x.write(handle, 32, 1));
            at.keeps(BAD, x -> x.cut(handle, 8));
        }
    }

    private static void savings(Due due, Edge at) {
        due.is("nodes()", at.changes(1, x -> x.save()).nodes(), 1);
        due.is("nodes()", at.changes(1, x -> x.crash(1)).nodes(), 1);
        at.keeps(0, x -> x.crash(0));
        at.keeps(0, x -> x.crash(2));
        at.keeps(BAD, x -> x.crash(-1));
        at.keeps(BAD, x -> x.crash(3));
    }

    /** An object that is made while another one is full is as new as the first. */
    private static void anotherObject(Due due) {
        RealTree full = new RealTree();
        for (int h = 1; h <= 3; h++) {
            full.make(h, 0, h, false);
            for (int block = 0; block < 8; block++) {
                full.write(h, block * 4, h);
            }
        }
        for (int name = 10; name < 22; name++) {
            full.make(3, 0, name, true);
        }
        full.save();
        due.same("what is seen of a new object", Observer.all(RealTree::new), Observer.all(Model::new));
        RealTree x = new RealTree();
        due.is("make(1, 0, 1, false)", x.make(1, 0, 1, false), OK);
        due.is("write(1, 0, 9)", x.write(1, 0, 9), OK);
        due.is("copies()", x.copies(), 1);
        due.is("save()", x.save(), 1);
        due.is("copies() of the other", full.copies(), 24);
        due.is("nodes() of the other", full.nodes(), 16);
        due.is("save() of the other", full.save(), 2);
    }
}
