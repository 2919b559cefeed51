import java.util.List;
import java.util.function.ToIntFunction;

/** "a call that is refused (by a code below 0 that is named, or by false) changes nothing", however often it comes. */
public final class Edges16RefusalTest {
    private static final int BAD = ExtentFileTree.BAD;
    private static final int FULL = ExtentFileTree.FULL;
    private static final int NOTHING = ExtentFileTree.NOTHING;
    private static final int WRONG = ExtentFileTree.WRONG;
    private static final int THERE = ExtentFileTree.THERE;
    private static final int BUSY = ExtentFileTree.BUSY;
    private static final int CIRCLE = ExtentFileTree.CIRCLE;
    private static final int OK = ExtentFileTree.OK;
    private static final int TIMES = 200;

    private record Refusal(int code, ToIntFunction<Tree> call) {
    }

    private static final List<Refusal> REFUSALS = List.of(
            new Refusal(BAD, x -> x.open(0, 1, -1)),
            new Refusal(NOTHING, x -> x.open(2, 0, 77)),
            new Refusal(NOTHING, x -> x.open(1, 3, -1)),
            new Refusal(WRONG, x -> x.open(1, 2, 0)),
            new Refusal(BAD, x -> x.make(4, 0, 77, true)),
            new Refusal(NOTHING, x -> x.make(1, 3, 77, true)),
            new Refusal(WRONG, x -> x.make(1, 2, 77, true)),
            new Refusal(THERE, x -> x.make(2, 0, 10, false)),
            new Refusal(FULL, x -> x.make(2, 1, 77, false)),
            new Refusal(BAD, x -> x.erase(0, 100)),
            new Refusal(NOTHING, x -> x.erase(0, 77)),
            new Refusal(NOTHING, x -> x.erase(3, 10)),
            new Refusal(WRONG, x -> x.erase(2, 20)),
            new Refusal(BUSY, x -> x.erase(1, 20)),
            new Refusal(FULL, x -> x.erase(0, 30)),
            new Refusal(BAD, x -> x.rename(0, 10, 0, 100)),
            new Refusal(NOTHING, x -> x.rename(0, 10, 3, 77)),
            new Refusal(WRONG, x -> x.rename(0, 10, 2, 77)),
            new Refusal(NOTHING, x -> x.rename(0, 77, 1, 78)),
            new Refusal(THERE, x -> x.rename(1, 20, 0, 30)),
            new Refusal(CIRCLE, x -> x.rename(0, 10, 1, 77)),
            new Refusal(BAD, x -> x.write(2, 32, 9)),
            new Refusal(NOTHING, x -> x.write(3, 0, 9)),
            new Refusal(WRONG, x -> x.write(1, 0, 9)),
            new Refusal(FULL, x -> x.write(2, 0, 9)),
            new Refusal(FULL, x -> x.write(2, 31, 9)),
            new Refusal(BAD, x -> x.cut(2, 8)),
            new Refusal(NOTHING, x -> x.cut(3, 0)),
            new Refusal(WRONG, x -> x.cut(1, 0)),
            new Refusal(BAD, x -> x.kind(4)),
            new Refusal(BAD, x -> x.next(-1, 0)),
            new Refusal(NOTHING, x -> x.next(3, 0)),
            new Refusal(WRONG, x -> x.next(2, 0)),
            new Refusal(NOTHING, x -> x.next(0, 99)),
            new Refusal(BAD, x -> x.size(4)),
            new Refusal(BAD, x -> x.crash(-1)),
            new Refusal(BAD, x -> x.crash(3)));

    public static void main(String[] args) {
        Due due = new Due();
        oneRefusalManyTimes(due);
        allRefusalsInTurn(due);
        whatWasRefusedIsTakenOneStepLater(due);
        due.end();
    }

    /**
     * Sixteen nodes and twenty-four copies, some of them saved. Handle 1 at the directory 10, handle 2 at its file 20,
     * whose block 0 is saved and which lacks block 7, handle 3 at nothing; the directory 30 has an entry.
     */
    private static void scene(Tree x) {
        x.make(1, 0, 30, true);
        x.make(2, 1, 31, false);
        for (int block = 0; block < 8; block++) {
            x.write(2, block * 4, 31);
        }
        x.make(1, 0, 10, true);
        x.make(2, 1, 20, false);
        for (int block = 0; block < 7; block++) {
            x.write(2, block * 4, 20);
        }
        for (int name = 40; name < 51; name++) {
            x.make(3, 0, name, name % 2 == 0);
        }
        x.crash(1);
        x.open(1, 0, 30);
        x.open(2, 1, 31);
        for (int block = 0; block < 8; block++) {
            x.write(2, block * 4, 32);
        }
        x.open(1, 0, 10);
        x.open(2, 1, 20);
        x.write(2, 4, 21);
    }

    private static RealTree repeated(Refusal refusal) {
        RealTree x = new RealTree();
        scene(x);
        for (int i = 0; i < TIMES; i++) {
            refusal.call.applyAsInt(x);
        }
        return x;
    }

    private static void oneRefusalManyTimes(Due due) {
        Edge at = new Edge(due, "the full scene", Edges16RefusalTest::scene);
        String untouched = Observer.all(Edges16RefusalTest::sceneAlone);
        for (Refusal refusal : REFUSALS) {
            at.keeps(refusal.code, refusal.call);
            RealTree x = repeated(refusal);
            due.is(x.last() + " many times", refusal.call.applyAsInt(x), refusal.code);
            due.same(x.last() + " many times: what is seen then", Observer.all(() -> repeated(refusal)), untouched);
        }
    }

    private static RealTree sceneAlone() {
        RealTree x = new RealTree();
        scene(x);
        return x;
    }

    private static RealTree afterAll(Due due) {
        RealTree x = sceneAlone();
        for (int round = 0; round < 5; round++) {
            for (Refusal refusal : REFUSALS) {
                int got = refusal.call.applyAsInt(x);
                due.is(x.last() + " after other refusals", got, refusal.code);
            }
        }
        return x;
    }

    private static void allRefusalsInTurn(Due due) {
        due.same("what is seen after all of them", Observer.all(() -> afterAll(due)),
                Observer.all(Edges16RefusalTest::sceneAlone));
    }

    /** The reason gone, the same call goes through: so the refused one took no node, no copy, no handle, no name. */
    private static void whatWasRefusedIsTakenOneStepLater(Due due) {
        RealTree x = afterAll(due);
        due.is("erase(0, 50)", x.erase(0, 50), OK);
        due.is("make(3, 1, 77, false)", x.make(3, 1, 77, false), OK);
        due.is("make(3, 1, 78, false)", x.make(3, 1, 78, false), FULL);
        due.is("nodes()", x.nodes(), 16);
        due.is("cut(2, 1), one of them not saved", x.cut(2, 1), 6);
        due.is("copies()", x.copies(), 23);
        due.is("write(2, 0, 9)", x.write(2, 0, 9), OK);
        due.is("write(2, 31, 9)", x.write(2, 31, 9), FULL);
        due.is("open(2, 1, -1)", x.open(2, 1, -1), OK);
        due.is("erase(1, 20)", x.erase(1, 20), OK);
        due.is("copies()", x.copies(), 23);
        due.is("rename(1, 77, 0, 77)", x.rename(1, 77, 0, 77), OK);
        due.is("save()", x.save(), 2);
        due.is("copies()", x.copies(), 8);
    }
}
