/** Every refusal the document names, made in one scene, must leave all that can be seen as it was. */
public final class Promise16RefusalTest {
    private static final int BAD = ExtentFileTree.BAD;
    private static final int FULL = ExtentFileTree.FULL;
    private static final int NOTHING = ExtentFileTree.NOTHING;
    private static final int WRONG = ExtentFileTree.WRONG;
    private static final int THERE = ExtentFileTree.THERE;
    private static final int BUSY = ExtentFileTree.BUSY;
    private static final int CIRCLE = ExtentFileTree.CIRCLE;

    public static void main(String[] args) {
        Due due = new Due();
        Edge scene = new Edge(due, "the scene", Promise16RefusalTest::scene);
        openAndMake(scene);
        eraseAndRename(scene);
        theOthers(scene);
        Edge full = new Edge(due, "the full scene", Promise16RefusalTest::fullScene);
        full.keeps(FULL, x -> x.make(2, 0, 99, true));
        full.keeps(FULL, x -> x.make(1, 2, 99, false));
        full.keeps(FULL, x -> x.write(1, 4, 9));
        full.keeps(FULL, x -> x.write(1, 31, 9));
        due.end();
    }

    /** Handle 1 at the directory 10, handle 2 at its file 20, handle 3 at nothing; changed since the saving. */
    private static void scene(Tree x) {
        x.make(1, 0, 10, true);
        x.make(2, 1, 20, false);
        x.write(2, 0, 1);
        x.write(2, 5, 2);
        x.make(2, 0, 30, true);
        x.make(2, 2, 31, true);
        x.crash(1);
        x.open(1, 0, 10);
        x.open(2, 1, 20);
        x.write(2, 1, 3);
        x.write(2, 30, 4);
        x.rename(0, 30, 0, 40);
    }

    /** Sixteen nodes and twenty-four copies; handle 1 at a file that has a saved copy and lacks blocks. */
    private static void fullScene(Tree x) {
        for (int name = 0; name < 13; name++) {
            x.make(1, 0, name, true);
        }
        x.make(1, 0, 50, false);
        x.make(3, 0, 51, false);
        x.open(2, 0, 12);
        for (int block = 0; block < 7; block++) {
            x.write(1, block * 4, 1);
            x.write(3, block * 4, 2);
        }
        x.write(3, 31, 2);
        x.save();
        for (int block = 0; block < 8; block++) {
            x.write(3, block * 4, 3);
        }
        x.write(1, 0, 4);
    }

    private static void openAndMake(Edge scene) {
        scene.keeps(BAD, x -> x.open(0, 1, -1));
        scene.keeps(BAD, x -> x.open(4, 0, 10));
        scene.keeps(BAD, x -> x.open(1, 4, 10));
        scene.keeps(BAD, x -> x.open(1, 0, 100));
        scene.keeps(BAD, x -> x.open(1, 0, -2));
        scene.keeps(NOTHING, x -> x.open(1, 3, -1));
        scene.keeps(NOTHING, x -> x.open(1, 3, 0));
        scene.keeps(WRONG, x -> x.open(1, 2, 0));
        scene.keeps(NOTHING, x -> x.open(1, 0, 30));
        scene.keeps(BAD, x -> x.make(0, 0, 1, true));
        scene.keeps(BAD, x -> x.make(1, -1, 1, true));
        scene.keeps(BAD, x -> x.make(1, 0, 100, true));
        scene.keeps(NOTHING, x -> x.make(1, 3, 1, true));
        scene.keeps(WRONG, x -> x.make(1, 2, 1, true));
        scene.keeps(THERE, x -> x.make(3, 0, 10, false));
    }

    private static void eraseAndRename(Edge scene) {
        scene.keeps(BAD, x -> x.erase(4, 10));
        scene.keeps(BAD, x -> x.erase(0, -1));
        scene.keeps(NOTHING, x -> x.erase(3, 10));
        scene.keeps(WRONG, x -> x.erase(2, 10));
        scene.keeps(NOTHING, x -> x.erase(0, 30));
        scene.keeps(BUSY, x -> x.erase(0, 10));
        scene.keeps(BUSY, x -> x.erase(1, 20));
        scene.keeps(FULL, x -> x.erase(0, 40));
        scene.keeps(BAD, x -> x.rename(4, 10, 0, 1));
        scene.keeps(BAD, x -> x.rename(0, 10, 0, 100));
        scene.keeps(NOTHING, x -> x.rename(0, 10, 3, 1));
        scene.keeps(WRONG, x -> x.rename(0, 10, 2, 1));
        scene.keeps(NOTHING, x -> x.rename(0, 11, 1, 1));
        scene.keeps(THERE, x -> x.rename(1, 20, 0, 40));
        scene.keeps(THERE, x -> x.rename(0, 10, 0, 10));
        scene.keeps(CIRCLE, x -> x.rename(0, 10, 1, 1));
    }

    private static void theOthers(Edge scene) {
        scene.keeps(BAD, x -> x.write(4, 0, 9));
        scene.keeps(BAD, x -> x.write(2, 32, 9));
        scene.keeps(BAD, x -> x.write(2, -1, 9));
        scene.keeps(NOTHING, x -> x.write(3, 0, 9));
        scene.keeps(WRONG, x -> x.write(1, 0, 9));
        scene.keeps(BAD, x -> x.cut(4, 0));
        scene.keeps(BAD, x -> x.cut(2, 8));
        scene.keeps(BAD, x -> x.cut(2, -1));
        scene.keeps(NOTHING, x -> x.cut(3, 0));
        scene.keeps(WRONG, x -> x.cut(1, 0));
        scene.keeps(BAD, x -> x.kind(4));
        scene.keeps(BAD, x -> x.size(-1));
        scene.keeps(BAD, x -> x.next(4, 0));
        scene.keeps(NOTHING, x -> x.next(3, 0));
        scene.keeps(WRONG, x -> x.next(2, 0));
        scene.keeps(NOTHING, x -> x.next(1, 20));
        scene.keeps(BAD, x -> x.crash(3));
        scene.keeps(BAD, x -> x.crash(-1));
    }
}
