import java.util.ArrayDeque;
import java.util.ArrayList;
import java.util.List;
import java.util.function.Supplier;

/**
 * Tells all that calls can find out of an object in some state. Every part is asked of an object of its own, brought to
 * that state anew: so no question disturbs another one, and none comes near an object's 512th call.
 */
final class Observer {
    private static final int HANDLES = 4;
    private static final int BLOCKS = 8;
    private static final int CELLS_OF_BLOCK = 4;
    private final Supplier<? extends Tree> state;
    private final StringBuilder seen = new StringBuilder();

    private Observer(Supplier<? extends Tree> state) {
        this.state = state;
    }

    /** The handles, the present and the saved state, the copies that the two share, and the number of savings. */
    static String all(Supplier<? extends Tree> state) {
        Observer observer = new Observer(state);
        observer.handles();
        observer.whereHandlesAre(observer.nodes("present", state));
        observer.savings();
        observer.nodes("saved", () -> crashed(state));
        return observer.seen.toString();
    }

    /** The nodes of the present state alone. */
    static String present(Supplier<? extends Tree> state) {
        Observer observer = new Observer(state);
        observer.nodes("present", state);
        return observer.seen.toString();
    }

    private static Tree crashed(Supplier<? extends Tree> state) {
        Tree tree = state.get();
        tree.crash(0);
        return tree;
    }

    private void note(String what, int answer) {
        seen.append(' ').append(what).append('=').append(answer);
    }

    private void handles() {
        Tree tree = state.get();
        for (int h = 0; h < HANDLES; h++) {
            seen.append("\n  handle ").append(h);
            node(tree, h);
        }
        note("nodes", tree.nodes());
        note("copies", tree.copies());
    }

    private void savings() {
        seen.append("\n  savings");
        note("crash(0)", state.get().crash(0));
        note("crash(2)", state.get().crash(2));
        note("crash(1)", state.get().crash(1));
        note("save", state.get().save());
    }

    private List<List<Integer>> nodes(String title, Supplier<? extends Tree> from) {
        List<List<Integer>> found = new ArrayList<>();
        ArrayDeque<List<Integer>> waiting = new ArrayDeque<>();
        waiting.add(List.of());
        while (!waiting.isEmpty()) {
            List<Integer> path = waiting.remove();
            found.add(path);
            Tree tree = from.get();
            follow(tree, 1, path);
            seen.append("\n  ").append(title).append(' ').append(path);
            note("nodes", tree.nodes());
            note("copies", tree.copies());
            for (int name : node(tree, 1)) {
                List<Integer> longer = new ArrayList<>(path);
                longer.add(name);
                waiting.add(longer);
            }
            sharing(tree);
        }
        return found;
    }

    /** Only a write tells whether a block's copy is in the saved state too: it makes one copy more, or is refused. */
    private void sharing(Tree tree) {
        if (tree.kind(1) != 2) {
            return;
        }
        for (int block = 0; block < BLOCKS; block++) {
            int cell = block * CELLS_OF_BLOCK;
            note("rewrite", tree.write(1, cell, tree.read(1, cell)));
            note("copies", tree.copies());
        }
    }

    /** Two nodes may look the same, but the one that a handle refers to can't be erased. */
    private void whereHandlesAre(List<List<Integer>> paths) {
        for (int h = 1; h < HANDLES; h++) {
            int guide = h == 1 ? 2 : 1;
            int idle = h == 3 ? 2 : 3;
            seen.append("\n  erasing beside handle ").append(h);
            for (List<Integer> path : paths.subList(1, paths.size())) {
                int last = path.size() - 1;
                Tree tree = state.get();
                tree.open(idle, 0, -1);
                follow(tree, guide, path.subList(0, last));
                note("" + path, tree.erase(guide, path.get(last)));
            }
        }
    }

    private static void follow(Tree tree, int h, List<Integer> path) {
        tree.open(h, 0, -1);
        for (int name : path) {
            tree.open(h, h, name);
        }
    }

    private List<Integer> node(Tree tree, int h) {
        List<Integer> names = new ArrayList<>();
        int kind = tree.kind(h);
        note("kind", kind);
        note("size", tree.size(h));
        if (kind == 1) {
            for (int name = tree.next(h, -1); name >= 0; name = tree.next(h, name)) {
                note("name", name);
                names.add(name);
            }
        }
        if (kind == 2) {
            for (int cell = 0; cell < BLOCKS * CELLS_OF_BLOCK; cell++) {
                note("" + cell, tree.read(h, cell));
            }
        }
        return names;
    }
}
