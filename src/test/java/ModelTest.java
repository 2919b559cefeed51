import java.util.Collections;
import java.util.IdentityHashMap;
import java.util.Set;
import java.util.TreeMap;

/** Long mixed runs of calls, each answer compared with that of a model made of objects and maps. */
public final class ModelTest {
    private static final int RUNS = 6000;
    private static final int CALLS = 512;

    private static final class Node {
        final boolean directory;
        final TreeMap<Integer, Node> entries = new TreeMap<>();
        final int[][] blocks = new int[8][];

        Node(boolean directory) {
            this.directory = directory;
        }

        /** Another node with other nodes below it, but with the same copies. */
        Node twin() {
            Node twin = new Node(directory);
            System.arraycopy(blocks, 0, twin.blocks, 0, blocks.length);
            entries.forEach((name, node) -> twin.entries.put(name, node.twin()));
            return twin;
        }

        boolean leadsTo(Node other) {
            return this == other || entries.values().stream().anyMatch(node -> node.leadsTo(other));
        }

        int count() {
            return 1 + entries.values().stream().mapToInt(Node::count).sum();
        }

        void gather(Set<int[]> copies) {
            for (int[] block : blocks) {
                if (block != null) {
                    copies.add(block);
                }
            }
            entries.values().forEach(node -> node.gather(copies));
        }
    }

    private static final class Model {
        Node top = new Node(true);
        Node saved = new Node(true);
        final Node[] handle = {top, null, null, null};
        int savings = 0;

        static boolean out(int number, int first, int last) {
            return number < first || number > last;
        }

        Set<int[]> copiesOf(Node... tops) {
            Set<int[]> copies = Collections.newSetFromMap(new IdentityHashMap<>());
            for (Node node : tops) {
                node.gather(copies);
            }
            return copies;
        }

        int open(int h, int d, int name) {
            if (out(h, 1, 3) || out(d, 0, 3) || out(name, -1, 99)) return -1;
            if (handle[d] == null) return -3;
            if (name == -1) {
                handle[h] = handle[d];
                return 0;
            }
            if (!handle[d].directory) return -4;
            if (!handle[d].entries.containsKey(name)) return -3;
            handle[h] = handle[d].entries.get(name);
            return 0;
        }

        int make(int h, int d, int name, boolean directory) {
            if (out(h, 1, 3) || out(d, 0, 3) || out(name, 0, 99)) return -1;
            if (handle[d] == null) return -3;
            if (!handle[d].directory) return -4;
            if (handle[d].entries.containsKey(name)) return -5;
            if (top.count() == 16) return -2;
            Node node = new Node(directory);
            handle[d].entries.put(name, node);
            handle[h] = node;
            return 0;
        }

        int erase(int d, int name) {
            if (out(d, 0, 3) || out(name, 0, 99)) return -1;
            if (handle[d] == null) return -3;
            if (!handle[d].directory) return -4;
            Node node = handle[d].entries.get(name);
            if (node == null) return -3;
            for (Node held : handle) {
                if (held == node) return -6;
            }
            if (!node.entries.isEmpty()) return -2;
            handle[d].entries.remove(name);
            return 0;
        }

        int rename(int d, int name, int e, int other) {
            if (out(d, 0, 3) || out(e, 0, 3) || out(name, 0, 99) || out(other, 0, 99)) return -1;
            if (handle[d] == null || handle[e] == null) return -3;
            if (!handle[d].directory || !handle[e].directory) return -4;
            Node node = handle[d].entries.get(name);
            if (node == null) return -3;
            if (handle[e].entries.containsKey(other)) return -5;
            if (node.leadsTo(handle[e])) return -7;
            handle[d].entries.remove(name);
            handle[e].entries.put(other, node);
            return 0;
        }

        int write(int h, int cell, int value) {
            if (out(h, 0, 3) || out(cell, 0, 31)) return -1;
            if (handle[h] == null) return -3;
            if (handle[h].directory) return -4;
            int[] copy = handle[h].blocks[cell >> 2];
            if (copy == null || copiesOf(saved).contains(copy)) {
                if (copiesOf(top, saved).size() == 24) return -2;
                copy = copy == null ? new int[4] : copy.clone();
                handle[h].blocks[cell >> 2] = copy;
            }
            copy[cell & 3] = value;
            return 0;
        }

        int read(int h, int cell) {
            if (out(h, 0, 3) || out(cell, 0, 31) || handle[h] == null) return 0;
            int[] copy = handle[h].blocks[cell >> 2];
            return copy == null ? 0 : copy[cell & 3];
        }

        int cut(int h, int block) {
            if (out(h, 0, 3) || out(block, 0, 7)) return -1;
            if (handle[h] == null) return -3;
            if (handle[h].directory) return -4;
            int before = size(h);
            for (int i = block; i < 8; i++) {
                handle[h].blocks[i] = null;
            }
            return before - size(h);
        }

        int kind(int h) {
            if (out(h, 0, 3)) return -1;
            if (handle[h] == null) return 0;
            return handle[h].directory ? 1 : 2;
        }

        int next(int d, int name) {
            if (out(d, 0, 3)) return -1;
            if (handle[d] == null) return -3;
            if (!handle[d].directory) return -4;
            Integer found = handle[d].entries.higherKey(name);
            return found == null ? -3 : found;
        }

        int size(int h) {
            if (out(h, 0, 3)) return -1;
            if (handle[h] == null) return 0;
            int blocks = 0;
            for (int[] block : handle[h].blocks) {
                blocks += block == null ? 0 : 1;
            }
            return blocks + handle[h].entries.size();
        }

        int copies() {
            return copiesOf(top, saved).size();
        }

        int nodes() {
            return top.count();
        }

        int save() {
            saved = top.twin();
            return ++savings;
        }

        int crash(int when) {
            if (out(when, 0, 2)) return -1;
            if (when == 1) save();
            top = saved.twin();
            handle[0] = top;
            handle[1] = handle[2] = handle[3] = null;
            return savings;
        }
    }

    private static long seed;

    /** The same numbers on every machine and in every run. */
    private static int below(int bound) {
        seed = seed * 6364136223846793005L + 1442695040888963407L;
        return (int) ((seed >>> 33) % bound);
    }

    /** Mostly a number from first to last, now and then one that is not. */
    private static int about(int first, int last) {
        switch (below(60)) {
            case 0: return first - 1;
            case 1: return last + 1;
            case 2: return below(2) == 0 ? Integer.MIN_VALUE : Integer.MAX_VALUE;
            default: return first + below(last - first + 1);
        }
    }

    private static int name(int spread) {
        int name = about(0, spread - 1);
        return below(8) == 0 ? 99 - name : name;
    }

    public static void main(String[] args) {
        Due due = new Due();
        int[] codes = new int[8];
        for (int run = 0; run < RUNS; run++) {
            seed = run;
            run(due, run, codes);
        }
        for (int code = 1; code < codes.length; code++) {
            due.is("code -" + code + " was met", codes[code] > 100 ? 1 : 0, 1);
        }
        due.end();
    }

    private static void run(Due due, int run, int[] codes) {
        ExtentFileTree x = new ExtentFileTree();
        Model m = new Model();
        int spread = 2 + below(18);
        int saving = 1 + below(40);
        int files = 1 + below(9);
        int shape = below(3);
        for (int i = 0; i < CALLS; i++) {
            String call = "run " + run + ", call " + i;
            int kind = below(100);
            int want;
            int got;
            if (kind < 96) {
                long before = seed;
                want = change(null, m, kind, spread, files, shape);
                seed = before;
                got = change(x, null, kind, spread, files, shape);
            } else if (below(40) < saving) {
                int when = about(0, 2);
                boolean plain = below(2) == 0;
                want = plain ? m.save() : m.crash(when);
                got = plain ? x.save() : x.crash(when);
            } else {
                want = m.copies();
                got = x.copies();
            }
            due.is(call, got, want);
            if (got != want) {
                return;
            }
            if (want < 0 && want > -8) {
                codes[-want]++;
            }
        }
    }

    /** One call on the object or on the model, whichever is given; the same numbers lead to the same call. */
    private static int change(ExtentFileTree x, Model m, int kind, int spread, int files, int shape) {
        int h = shape == 0 ? about(0, 3) : about(1, 3);
        int d = below(3) < shape ? h : about(0, 3);
        int name = name(spread);
        int other = name(spread);
        int cell = about(0, 31);
        int value = below(1000) - 500;
        boolean directory = below(10) >= files;
        if (kind < 12) return m == null ? x.open(h, d, name) : m.open(h, d, name);
        if (kind < 16) return m == null ? x.open(h, d, -1) : m.open(h, d, -1);
        if (kind < 34) return m == null ? x.make(h, d, name, directory) : m.make(h, d, name, directory);
        if (kind < 40) return m == null ? x.erase(d, name) : m.erase(d, name);
        if (kind < 48) return m == null ? x.rename(d, name, h, other) : m.rename(d, name, h, other);
        if (kind < 72) return m == null ? x.write(h, cell, value) : m.write(h, cell, value);
        if (kind < 78) return m == null ? x.read(h, cell) : m.read(h, cell);
        if (kind < 80) return m == null ? x.cut(h, cell >> 2) : m.cut(h, cell >> 2);
        if (kind < 83) return m == null ? x.kind(h) : m.kind(h);
        if (kind < 87) return m == null ? x.next(d, name) : m.next(d, name);
        if (kind < 90) return m == null ? x.size(h) : m.size(h);
        if (kind < 93) return m == null ? x.copies() : m.copies();
        return m == null ? x.nodes() : m.nodes();
    }
}
