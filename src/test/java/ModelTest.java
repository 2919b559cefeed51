import java.util.function.ToIntFunction;

/** Long mixed runs of calls, each answer compared with that of the model. */
public final class ModelTest {
    private static final int RUNS = 6000;

    private static long seed;

    /** The same numbers on every machine and in every run. */
    private static int below(int bound) {
        seed = seed * 6364136223846793005L + 1442695040888963407L;
        return (int) ((seed >>> 33) % bound);
    }

    /** Mostly a number from first to last, now and then one that is not. */
    private static int about(int first, int last) {
        switch (below(60)) {
            case 0: return first - 1;
            case 1: return last + 1;
            case 2: return below(2) == 0 ? Integer.MIN_VALUE : Integer.MAX_VALUE;
            default: return first + below(last - first + 1);
        }
    }

    private static int name(int spread) {
        int name = about(0, spread - 1);
        return below(8) == 0 ? 99 - name : name;
    }

    public static void main(String[] args) {
        Due due = new Due();
        int[] codes = new int[8];
        for (int run = 0; run < RUNS; run++) {
            seed = run;
            run(due, run, codes);
        }
        for (int code = 1; code < codes.length; code++) {
            due.is("code -" + code + " was met", codes[code] > 100 ? 1 : 0, 1);
        }
        due.end();
    }

    private static void run(Due due, int run, int[] codes) {
        RealTree real = new RealTree();
        Model model = new Model();
        int spread = 2 + below(18);
        int saving = 1 + below(40);
        int files = 1 + below(9);
        int shape = below(3);
        for (int i = 0; i < RealTree.LAST_CALL; i++) {
            int kind = below(100);
            ToIntFunction<Tree> call = kind < 96 ? workCall(kind, spread, files, shape) : rareCall(saving);
            int got = call.applyAsInt(real);
            int want = call.applyAsInt(model);
            if (got != want) {
                due.is("run " + run + ", call " + i + ", " + real.last(), got, want);
                return;
            }
            if (want < 0 && want > -8) {
                codes[-want]++;
            }
        }
    }

    private static ToIntFunction<Tree> rareCall(int saving) {
        int when = about(0, 2);
        if (below(40) >= saving) return Tree::copies;
        return below(2) == 0 ? Tree::save : tree -> tree.crash(when);
    }

    private static ToIntFunction<Tree> workCall(int kind, int spread, int files, int shape) {
        int h = shape == 0 ? about(0, 3) : about(1, 3);
        int d = below(3) < shape ? h : about(0, 3);
        int name = name(spread);
        int other = name(spread);
        int cell = about(0, 31);
        int value = below(1000) - 500;
        boolean directory = below(10) >= files;
        if (kind < 12) return tree -> tree.open(h, d, name);
        if (kind < 16) return tree -> tree.open(h, d, -1);
        if (kind < 34) return tree -> tree.make(h, d, name, directory);
        if (kind < 40) return tree -> tree.erase(d, name);
        if (kind < 48) return tree -> tree.rename(d, name, h, other);
        if (kind < 72) return tree -> tree.write(h, cell, value);
        if (kind < 78) return tree -> tree.read(h, cell);
        if (kind < 80) return tree -> tree.cut(h, cell >> 2);
        if (kind < 83) return tree -> tree.kind(h);
        if (kind < 87) return tree -> tree.next(d, name);
        if (kind < 90) return tree -> tree.size(h);
        if (kind < 93) return Tree::copies;
        return Tree::nodes;
    }
}
