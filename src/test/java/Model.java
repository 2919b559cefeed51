import java.util.Collections;
import java.util.IdentityHashMap;
import java.util.Set;
import java.util.TreeMap;

/** The document once more, made of objects and maps, without a thought of arrays or of speed. */
final class Model implements Tree {
    private static final class Node {
        final boolean directory;
        final TreeMap<Integer, Node> entries = new TreeMap<>();
        final int[][] blocks = new int[8][];

        Node(boolean directory) {
            this.directory = directory;
        }

        /** Another node with other nodes below it, but with the same copies. */
        Node twin() {
            Node twin = new Node(directory);
            System.arraycopy(blocks, 0, twin.blocks, 0, blocks.length);
            entries.forEach((name, node) -> twin.entries.put(name, node.twin()));
            return twin;
        }

        boolean leadsTo(Node other) {
            return this == other || entries.values().stream().anyMatch(node -> node.leadsTo(other));
        }

        int count() {
            return 1 + entries.values().stream().mapToInt(Node::count).sum();
        }

        void gather(Set<int[]> copies) {
            for (int[] block : blocks) {
                if (block != null) {
                    copies.add(block);
                }
            }
            entries.values().forEach(node -> node.gather(copies));
        }
    }

    private Node top = new Node(true);
    private Node saved = new Node(true);
    private final Node[] handle = {top, null, null, null};
    private int savings = 0;

    private static boolean out(int number, int first, int last) {
        return number < first || number > last;
    }

    private static Set<int[]> copiesOf(Node... tops) {
        Set<int[]> copies = Collections.newSetFromMap(new IdentityHashMap<>());
        for (Node node : tops) {
            node.gather(copies);
        }
        return copies;
    }

    @Override
    public int open(int h, int d, int name) {
        if (out(h, 1, 3) || out(d, 0, 3) || out(name, -1, 99)) return -1;
        if (handle[d] == null) return -3;
        if (name == -1) {
            handle[h] = handle[d];
            return 0;
        }
        if (!handle[d].directory) return -4;
        if (!handle[d].entries.containsKey(name)) return -3;
        handle[h] = handle[d].entries.get(name);
        return 0;
    }

    @Override
    public int make(int h, int d, int name, boolean directory) {
        if (out(h, 1, 3) || out(d, 0, 3) || out(name, 0, 99)) return -1;
        if (handle[d] == null) return -3;
        if (!handle[d].directory) return -4;
        if (handle[d].entries.containsKey(name)) return -5;
        if (top.count() == 16) return -2;
        Node node = new Node(directory);
        handle[d].entries.put(name, node);
        handle[h] = node;
        return 0;
    }

    @Override
    public int erase(int d, int name) {
        if (out(d, 0, 3) || out(name, 0, 99)) return -1;
        if (handle[d] == null) return -3;
        if (!handle[d].directory) return -4;
        Node node = handle[d].entries.get(name);
        if (node == null) return -3;
        for (Node held : handle) {
            if (held == node) return -6;
        }
        if (!node.entries.isEmpty()) return -2;
        handle[d].entries.remove(name);
        return 0;
    }

    @Override
    public int rename(int d, int name, int e, int other) {
        if (out(d, 0, 3) || out(e, 0, 3) || out(name, 0, 99) || out(other, 0, 99)) return -1;
        if (handle[d] == null || handle[e] == null) return -3;
        if (!handle[d].directory || !handle[e].directory) return -4;
        Node node = handle[d].entries.get(name);
        if (node == null) return -3;
        if (handle[e].entries.containsKey(other)) return -5;
        if (node.leadsTo(handle[e])) return -7;
        handle[d].entries.remove(name);
        handle[e].entries.put(other, node);
        return 0;
    }

    @Override
    public int write(int h, int cell, int value) {
        if (out(h, 0, 3) || out(cell, 0, 31)) return -1;
        if (handle[h] == null) return -3;
        if (handle[h].directory) return -4;
        int[] copy = handle[h].blocks[cell >> 2];
        if (copy == null || copiesOf(saved).contains(copy)) {
            if (copiesOf(top, saved).size() == 24) return -2;
            copy = copy == null ? new int[4] : copy.clone();
            handle[h].blocks[cell >> 2] = copy;
        }
        copy[cell & 3] = value;
        return 0;
    }

    @Override
    public int read(int h, int cell) {
        if (out(h, 0, 3) || out(cell, 0, 31) || handle[h] == null) return 0;
        int[] copy = handle[h].blocks[cell >> 2];
        return copy == null ? 0 : copy[cell & 3];
    }

    @Override
    public int cut(int h, int block) {
        if (out(h, 0, 3) || out(block, 0, 7)) return -1;
        if (handle[h] == null) return -3;
        if (handle[h].directory) return -4;
        int before = size(h);
        for (int i = block; i < 8; i++) {
            handle[h].blocks[i] = null;
        }
        return before - size(h);
    }

    @Override
    public int kind(int h) {
        if (out(h, 0, 3)) return -1;
        if (handle[h] == null) return 0;
        return handle[h].directory ? 1 : 2;
    }

    @Override
    public int next(int d, int name) {
        if (out(d, 0, 3)) return -1;
        if (handle[d] == null) return -3;
        if (!handle[d].directory) return -4;
        Integer found = handle[d].entries.higherKey(name);
        return found == null ? -3 : found;
    }

    @Override
    public int size(int h) {
        if (out(h, 0, 3)) return -1;
        if (handle[h] == null) return 0;
        int blocks = 0;
        for (int[] block : handle[h].blocks) {
            blocks += block == null ? 0 : 1;
        }
        return blocks + handle[h].entries.size();
    }

    @Override
    public int copies() {
        return copiesOf(top, saved).size();
    }

    @Override
    public int nodes() {
        return top.count();
    }

    @Override
    public int save() {
        saved = top.twin();
        return ++savings;
    }

    @Override
    public int crash(int when) {
        if (out(when, 0, 2)) return -1;
        if (when == 1) save();
        top = saved.twin();
        handle[0] = top;
        handle[1] = handle[2] = handle[3] = null;
        return savings;
    }
}
