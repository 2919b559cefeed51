import java.util.LinkedHashMap;
import java.util.Map;
import java.util.function.ToIntFunction;

/** Every refusal the document names, made in one scene, must leave all that can be seen as it was. */
public final class Promise16RefusalTest {
    private static final int BAD = ExtentFileTree.BAD;
    private static final int FULL = ExtentFileTree.FULL;
    private static final int NOTHING = ExtentFileTree.NOTHING;
    private static final int WRONG = ExtentFileTree.WRONG;
    private static final int THERE = ExtentFileTree.THERE;
    private static final int BUSY = ExtentFileTree.BUSY;
    private static final int CIRCLE = ExtentFileTree.CIRCLE;

    private static final Map<String, Integer> WANT = new LinkedHashMap<>();
    private static final Map<String, ToIntFunction<ExtentFileTree>> CALL = new LinkedHashMap<>();

    public static void main(String[] args) {
        Due due = new Due();
        listOpenAndMake();
        listEraseAndRename();
        listTheOthers();
        String want = Observer.all(scene());
        for (String name : CALL.keySet()) {
            ExtentFileTree x = scene();
            due.is(name, CALL.get(name).applyAsInt(x), WANT.get(name));
            due.same("what is seen after " + name, Observer.all(x), want);
        }
        String fullWant = Observer.all(fullScene());
        refusedWhenFull(due, "make(2, 0, 99, true)", fullWant, x -> x.make(2, 0, 99, true));
        refusedWhenFull(due, "make(1, 2, 99, false)", fullWant, x -> x.make(1, 2, 99, false));
        refusedWhenFull(due, "write(1, 4, 9), a saved copy", fullWant, x -> x.write(1, 4, 9));
        refusedWhenFull(due, "write(1, 31, 9), a block not there", fullWant, x -> x.write(1, 31, 9));
        due.end();
    }

    private static void add(String name, int want, ToIntFunction<ExtentFileTree> call) {
        WANT.put(name, want);
        CALL.put(name, call);
    }

    private static void refusedWhenFull(Due due, String name, String want, ToIntFunction<ExtentFileTree> call) {
        ExtentFileTree x = fullScene();
        due.is(name, call.applyAsInt(x), FULL);
        due.same("what is seen after " + name, Observer.all(x), want);
    }

    /** Handle 1 at the directory 10, handle 2 at its file 20, handle 3 at nothing; changed since the saving. */
    private static ExtentFileTree scene() {
        ExtentFileTree x = new ExtentFileTree();
        x.make(1, 0, 10, true);
        x.make(2, 1, 20, false);
        x.write(2, 0, 1);
        x.write(2, 5, 2);
        x.make(2, 0, 30, true);
        x.make(2, 2, 31, true);
        x.crash(1);
        x.open(1, 0, 10);
        x.open(2, 1, 20);
        x.write(2, 1, 3);
        x.write(2, 30, 4);
        x.rename(0, 30, 0, 40);
        return x;
    }

    /** Sixteen nodes and twenty-four copies; handle 1 at a file that has a saved copy and lacks blocks. */
    private static ExtentFileTree fullScene() {
        ExtentFileTree x = new ExtentFileTree();
        for (int name = 0; name < 13; name++) {
            x.make(1, 0, name, true);
        }
        x.make(1, 0, 50, false);
        x.make(3, 0, 51, false);
        x.open(2, 0, 12);
        for (int block = 0; block < 7; block++) {
            x.write(1, block * 4, 1);
            x.write(3, block * 4, 2);
        }
        x.write(3, 31, 2);
        x.save();
        for (int block = 0; block < 8; block++) {
            x.write(3, block * 4, 3);
        }
        x.write(1, 0, 4);
        return x;
    }

    private static void listOpenAndMake() {
        add("open(0, 1, -1)", BAD, x -> x.open(0, 1, -1));
        add("open(4, 0, 10)", BAD, x -> x.open(4, 0, 10));
        add("open(1, 4, 10)", BAD, x -> x.open(1, 4, 10));
        add("open(1, 0, 100)", BAD, x -> x.open(1, 0, 100));
        add("open(1, 0, -2)", BAD, x -> x.open(1, 0, -2));
        add("open(1, 3, -1)", NOTHING, x -> x.open(1, 3, -1));
        add("open(1, 3, 0)", NOTHING, x -> x.open(1, 3, 0));
        add("open(1, 2, 0)", WRONG, x -> x.open(1, 2, 0));
        add("open(1, 0, 30)", NOTHING, x -> x.open(1, 0, 30));
        add("make(0, 0, 1, true)", BAD, x -> x.make(0, 0, 1, true));
        add("make(1, -1, 1, true)", BAD, x -> x.make(1, -1, 1, true));
        add("make(1, 0, 100, true)", BAD, x -> x.make(1, 0, 100, true));
        add("make(1, 3, 1, true)", NOTHING, x -> x.make(1, 3, 1, true));
        add("make(1, 2, 1, true)", WRONG, x -> x.make(1, 2, 1, true));
        add("make(3, 0, 10, false)", THERE, x -> x.make(3, 0, 10, false));
    }

    private static void listEraseAndRename() {
        add("erase(4, 10)", BAD, x -> x.erase(4, 10));
        add("erase(0, -1)", BAD, x -> x.erase(0, -1));
        add("erase(3, 10)", NOTHING, x -> x.erase(3, 10));
        add("erase(2, 10)", WRONG, x -> x.erase(2, 10));
        add("erase(0, 30)", NOTHING, x -> x.erase(0, 30));
        add("erase(0, 10)", BUSY, x -> x.erase(0, 10));
        add("erase(1, 20)", BUSY, x -> x.erase(1, 20));
        add("erase(0, 40)", FULL, x -> x.erase(0, 40));
        add("rename(4, 10, 0, 1)", BAD, x -> x.rename(4, 10, 0, 1));
        add("rename(0, 10, 0, 100)", BAD, x -> x.rename(0, 10, 0, 100));
        add("rename(0, 10, 3, 1)", NOTHING, x -> x.rename(0, 10, 3, 1));
        add("rename(0, 10, 2, 1)", WRONG, x -> x.rename(0, 10, 2, 1));
        add("rename(0, 11, 1, 1)", NOTHING, x -> x.rename(0, 11, 1, 1));
        add("rename(1, 20, 0, 40)", THERE, x -> x.rename(1, 20, 0, 40));
        add("rename(0, 10, 0, 10)", THERE, x -> x.rename(0, 10, 0, 10));
        add("rename(0, 10, 1, 1)", CIRCLE, x -> x.rename(0, 10, 1, 1));
    }

    private static void listTheOthers() {
        add("write(4, 0, 9)", BAD, x -> x.write(4, 0, 9));
        add("write(2, 32, 9)", BAD, x -> x.write(2, 32, 9));
        add("write(2, -1, 9)", BAD, x -> x.write(2, -1, 9));
        add("write(3, 0, 9)", NOTHING, x -> x.write(3, 0, 9));
        add("write(1, 0, 9)", WRONG, x -> x.write(1, 0, 9));
        add("cut(4, 0)", BAD, x -> x.cut(4, 0));
        add("cut(2, 8)", BAD, x -> x.cut(2, 8));
        add("cut(2, -1)", BAD, x -> x.cut(2, -1));
        add("cut(3, 0)", NOTHING, x -> x.cut(3, 0));
        add("cut(1, 0)", WRONG, x -> x.cut(1, 0));
        add("kind(4)", BAD, x -> x.kind(4));
        add("size(-1)", BAD, x -> x.size(-1));
        add("next(4, 0)", BAD, x -> x.next(4, 0));
        add("next(3, 0)", NOTHING, x -> x.next(3, 0));
        add("next(2, 0)", WRONG, x -> x.next(2, 0));
        add("next(1, 20)", NOTHING, x -> x.next(1, 20));
        add("crash(3)", BAD, x -> x.crash(3));
        add("crash(-1)", BAD, x -> x.crash(-1));
    }
}
