import java.util.Arrays;

/** The class under test. It counts its calls: what an object answers after the 512th is free, so no test may use it. */
final class RealTree implements Tree {
    static final int LAST_CALL = 512;

    private final ExtentFileTree tree = new ExtentFileTree();
    private final int limit;
    private int calls = 0;
    private String lastName = "new object";
    private Object[] lastArguments = {};

    RealTree() {
        this(LAST_CALL);
    }

    RealTree(int limit) {
        this.limit = limit;
    }

    int calls() {
        return calls;
    }

    String last() {
        return lastName + Arrays.toString(lastArguments).replace('[', '(').replace(']', ')');
    }

    private void count(String name, Object... arguments) {
        calls++;
        lastName = name;
        lastArguments = arguments;
        if (calls > limit) {
            throw new IllegalStateException("a test makes more than " + limit + " calls on one object");
        }
    }

    @Override
    public int open(int h, int d, int name) {
        count("open", h, d, name);
        return tree.open(h, d, name);
    }

    @Override
    public int make(int h, int d, int name, boolean directory) {
        count("make", h, d, name, directory);
        return tree.make(h, d, name, directory);
    }

    @Override
    public int erase(int d, int name) {
        count("erase", d, name);
        return tree.erase(d, name);
    }

    @Override
    public int rename(int d, int name, int e, int other) {
        count("rename", d, name, e, other);
        return tree.rename(d, name, e, other);
    }

    @Override
    public int write(int h, int cell, int value) {
        count("write", h, cell, value);
        return tree.write(h, cell, value);
    }

    @Override
    public int read(int h, int cell) {
        count("read", h, cell);
        return tree.read(h, cell);
    }

    @Override
    public int cut(int h, int block) {
        count("cut", h, block);
        return tree.cut(h, block);
    }

    @Override
    public int kind(int h) {
        count("kind", h);
        return tree.kind(h);
    }

    @Override
    public int next(int d, int name) {
        count("next", d, name);
        return tree.next(d, name);
    }

    @Override
    public int size(int h) {
        count("size", h);
        return tree.size(h);
    }

    @Override
    public int copies() {
        count("copies");
        return tree.copies();
    }

    @Override
    public int nodes() {
        count("nodes");
        return tree.nodes();
    }

    @Override
    public int save() {
        count("save");
        return tree.save();
    }

    @Override
    public int crash(int when) {
        count("crash", when);
        return tree.crash(when);
    }
}
