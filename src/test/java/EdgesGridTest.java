import java.util.ArrayList;
import java.util.List;
import java.util.function.Consumer;
import java.util.function.ToIntFunction;

/**
 * Every call with every mixture of arguments at the bounds and one step to each side of them, in several scenes: the
 * answer, and all that other calls show afterwards, compared with the model. So any two reasons that can come together
 * do come together here.
 */
public final class EdgesGridTest {
    private static final int[] HANDLES = {-1, 0, 1, 2, 3, 4};
    private static final int[] NAMES = {-1, 0, 1, 50, 98, 99, 100};
    private static final int[] NAMES_TO_OPEN = {-2, -1, 0, 1, 49, 50, 51, 98, 99, 100};
    private static final int[] NAMES_ABOVE = {Integer.MIN_VALUE, -2, -1, 0, 1, 49, 50, 98, 99, 100, Integer.MAX_VALUE};
    private static final int[] CELLS = {Integer.MIN_VALUE, -1, 0, 1, 3, 4, 27, 28, 30, 31, 32, Integer.MAX_VALUE};
    private static final int[] BLOCKS = {Integer.MIN_VALUE, -1, 0, 1, 6, 7, 8, Integer.MAX_VALUE};
    private static final int[] TIMES = {Integer.MIN_VALUE, -1, 0, 1, 2, 3, Integer.MAX_VALUE};

    public static void main(String[] args) {
        Due due = new Due();
        List<ToIntFunction<Tree>> calls = new ArrayList<>();
        addCallsOnNodes(calls);
        addRenames(calls);
        addOtherCalls(calls);
        all(due, "a new object", x -> { }, calls);
        all(due, "the handles at a directory, a file, nothing", EdgesGridTest::threeKinds, calls);
        all(due, "the handles at a directory, one in it, one in that", EdgesGridTest::chain, calls);
        all(due, "changed since the saving", EdgesGridTest::changed, calls);
        for (int count = 15; count <= 16; count++) {
            int nodes = count;
            all(due, count + " nodes", x -> nodes(x, nodes), calls);
            due.is("nodes() of that scene", made(x -> nodes(x, nodes)).nodes(), count);
        }
        for (int count = 23; count <= 24; count++) {
            int copies = count;
            all(due, count + " copies", x -> copies(x, copies), calls);
            due.is("copies() of that scene", made(x -> copies(x, copies)).copies(), count);
        }
        due.end();
    }

    private static void all(Due due, String title, Consumer<Tree> scene, List<ToIntFunction<Tree>> calls) {
        Edge at = new Edge(due, title, scene);
        for (ToIntFunction<Tree> call : calls) {
            at.likeTheModel(call);
        }
    }

    private static Tree made(Consumer<Tree> scene) {
        Tree tree = new RealTree();
        scene.accept(tree);
        return tree;
    }

    private static void threeKinds(Tree x) {
        x.make(1, 0, 0, false);
        x.make(1, 0, 99, false);
        x.make(1, 0, 50, true);
        x.make(2, 1, 99, true);
        x.make(2, 1, 1, false);
        x.write(2, 4, 7);
        x.write(2, 28, 8);
    }

    private static void chain(Tree x) {
        x.make(1, 0, 50, true);
        x.make(2, 1, 50, true);
        x.make(3, 2, 50, true);
        x.make(3, 0, 99, false);
        x.open(3, 2, 50);
    }

    private static void changed(Tree x) {
        threeKinds(x);
        x.crash(1);
        x.open(1, 0, 50);
        x.open(2, 1, 1);
        x.write(2, 4, 9);
        x.write(2, 3, 10);
        x.cut(2, 7);
        x.rename(0, 99, 0, 98);
        x.make(3, 1, 0, true);
        x.open(3, 2, -1);
    }

    private static void nodes(Tree x, int count) {
        x.make(1, 0, 50, true);
        x.make(2, 1, 50, false);
        x.save();
        for (int i = 3; i < count; i++) {
            x.make(3, i % 2, 60 + i, i % 3 == 0);
        }
    }

    private static void copies(Tree x, int count) {
        x.make(3, 0, 50, true);
        x.make(1, 3, 1, false);
        x.make(2, 3, 99, false);
        for (int block = 1; block < 8; block++) {
            x.write(1, block * 4, block);
            x.write(2, block * 4, block);
        }
        x.crash(1);
        x.open(3, 0, 50);
        x.open(1, 3, 1);
        x.open(2, 3, 99);
        for (int i = 14; i < count; i++) {
            x.write(1 + i % 2, 1 + i / 2 % 8 * 4, i);
        }
    }

    private static void addCallsOnNodes(List<ToIntFunction<Tree>> calls) {
        for (int d : HANDLES) {
            for (int h : HANDLES) {
                for (int name : NAMES_TO_OPEN) {
                    calls.add(x -> x.open(h, d, name));
                    calls.add(x -> x.make(h, d, name, true));
                    calls.add(x -> x.make(h, d, name, false));
                }
            }
            for (int name : NAMES_TO_OPEN) {
                calls.add(x -> x.erase(d, name));
            }
            for (int name : NAMES_ABOVE) {
                calls.add(x -> x.next(d, name));
            }
        }
    }

    private static void addRenames(List<ToIntFunction<Tree>> calls) {
        for (int d : HANDLES) {
            for (int e : HANDLES) {
                for (int name : NAMES) {
                    for (int other : NAMES) {
                        calls.add(x -> x.rename(d, name, e, other));
                    }
                }
            }
        }
    }

    private static void addOtherCalls(List<ToIntFunction<Tree>> calls) {
        for (int h : HANDLES) {
            for (int cell : CELLS) {
                calls.add(x -> x.write(h, cell, -1));
                calls.add(x -> x.write(h, cell, 0));
                calls.add(x -> x.read(h, cell));
            }
            for (int block : BLOCKS) {
                calls.add(x -> x.cut(h, block));
            }
            calls.add(x -> x.kind(h));
            calls.add(x -> x.size(h));
        }
        for (int when : TIMES) {
            calls.add(x -> x.crash(when));
        }
        calls.add(x -> x.copies());
        calls.add(x -> x.nodes());
        calls.add(x -> x.save());
    }
}
