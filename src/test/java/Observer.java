import java.util.ArrayDeque;
import java.util.ArrayList;
import java.util.List;

/** Tells all that calls can find out of an object. It uses handles 1 to 3 and ends with a crash. */
final class Observer {
    private static final int HANDLES = 4;
    private static final int CELLS = 32;
    private final ExtentFileTree tree;
    private final StringBuilder seen = new StringBuilder();

    private Observer(ExtentFileTree tree) {
        this.tree = tree;
    }

    static String all(ExtentFileTree tree) {
        Observer observer = new Observer(tree);
        observer.handles();
        observer.state("present");
        observer.note("crash", tree.crash(0));
        observer.handles();
        observer.state("saved");
        return observer.seen.toString();
    }

    /** The tree of the present state alone; it leaves handle 1 at the node seen last. */
    static String tree(ExtentFileTree tree) {
        Observer observer = new Observer(tree);
        observer.state("present");
        return observer.seen.toString();
    }

    private void note(String what, int answer) {
        seen.append(' ').append(what).append('=').append(answer);
    }

    private void handles() {
        for (int h = 0; h < HANDLES; h++) {
            seen.append(" handle").append(h);
            node(h);
        }
    }

    private void state(String name) {
        seen.append(' ').append(name);
        note("nodes", tree.nodes());
        note("copies", tree.copies());
        ArrayDeque<List<Integer>> paths = new ArrayDeque<>();
        paths.add(List.of());
        while (!paths.isEmpty()) {
            List<Integer> path = paths.remove();
            follow(path);
            seen.append(' ').append(path);
            for (int name2 : node(1)) {
                List<Integer> longer = new ArrayList<>(path);
                longer.add(name2);
                paths.add(longer);
            }
        }
    }

    private void follow(List<Integer> path) {
        tree.open(1, 0, -1);
        for (int name : path) {
            tree.open(1, 1, name);
        }
    }

    private List<Integer> node(int h) {
        List<Integer> names = new ArrayList<>();
        int kind = tree.kind(h);
        note("kind", kind);
        note("size", tree.size(h));
        if (kind == 1) {
            for (int name = tree.next(h, -1); name >= 0; name = tree.next(h, name)) {
                note("name", name);
                names.add(name);
            }
        }
        if (kind == 2) {
            for (int cell = 0; cell < CELLS; cell++) {
                note("" + cell, tree.read(h, cell));
            }
        }
        return names;
    }
}
