import java.util.List;
import java.util.function.ToIntFunction;

/** "An object is used for at most 512 calls after it has been made; what later calls answer is free." */
public final class Edges00UseTest {
    private static final int LAST = RealTree.LAST_CALL;
    private static final int ENOUGH = 500_000;
    private static final int NOTHING = ExtentFileTree.NOTHING;

    private record Case(int want, ToIntFunction<Tree> call) {
    }

    private static final List<Case> CASES = List.of(
            new Case(0, x -> x.open(3, 1, 20)),
            new Case(NOTHING, x -> x.open(3, 1, 21)),
            new Case(0, x -> x.make(3, 1, 21, false)),
            new Case(0, x -> x.erase(0, 30)),
            new Case(0, x -> x.rename(1, 20, 0, 99)),
            new Case(0, x -> x.write(2, 31, 7)),
            new Case(11, x -> x.read(2, 0)),
            new Case(2, x -> x.cut(2, 0)),
            new Case(1, x -> x.kind(1)),
            new Case(30, x -> x.next(0, 10)),
            new Case(2, x -> x.size(2)),
            new Case(3, x -> x.copies()),
            new Case(4, x -> x.nodes()),
            new Case(2, x -> x.save()),
            new Case(1, x -> x.crash(0)),
            new Case(2, x -> x.crash(1)),
            new Case(1, x -> x.crash(2)));

    public static void main(String[] args) {
        Due due = new Due();
        theLastCallsAnswerAsAnyOther(due);
        laterCallsEnd(due);
        anyNumberOfCallsEnds(due);
        savingsAreCountedToTheLastCall(due);
        copiesAreFoundToTheLastCall(due);
        nodesAreFoundToTheLastCall(due);
        due.end();
    }

    /** Handle 1 at the directory 10, handle 2 at its file 20; the empty directory 30; one of two blocks changed since. */
    private static RealTree scene(int limit) {
        RealTree x = new RealTree(limit);
        x.make(1, 0, 30, true);
        x.make(1, 0, 10, true);
        x.make(2, 1, 20, false);
        x.write(2, 0, 10);
        x.write(2, 4, 12);
        x.save();
        x.write(2, 0, 11);
        return x;
    }

    private static RealTree sceneAfter(int calls, int limit) {
        RealTree x = scene(limit);
        while (x.calls() < calls) {
            x.nodes();
        }
        return x;
    }

    private static void theLastCallsAnswerAsAnyOther(Due due) {
        for (Case one : CASES) {
            for (int number = LAST - 2; number <= LAST; number++) {
                RealTree x = sceneAfter(number - 1, LAST);
                int got = one.call.applyAsInt(x);
                due.is(x.last() + " as call " + x.calls(), got, one.want);
                due.is("calls made", x.calls(), number);
            }
        }
    }

    /** Their answers are free, but LANGUAGE.md lets no call throw or fail to end. */
    private static void laterCallsEnd(Due due) {
        for (Case one : CASES) {
            RealTree x = sceneAfter(LAST, Integer.MAX_VALUE);
            one.call.applyAsInt(x);
            due.is("calls made", x.calls(), LAST + 1);
        }
        RealTree x = scene(Integer.MAX_VALUE);
        for (int round = 0; round < 100; round++) {
            for (Case one : CASES) {
                one.call.applyAsInt(x);
            }
        }
        due.is("calls made", x.calls(), 7 + 100 * CASES.size());
    }

    private static long seed = 1;

    /** The same numbers in every run: mostly some that the document lets through, now and then any int. */
    private static int number(int first, int last) {
        seed = seed * 6364136223846793005L + 1442695040888963407L;
        int any = (int) (seed >>> 32);
        return (seed >>> 20 & 15) == 0 ? any : first + Math.floorMod(any, last - first + 1);
    }

    private static int anyCall(Tree x) {
        int h = number(-1, 4);
        int d = number(-1, 4);
        int name = number(-2, 20);
        switch (number(0, 13)) {
            case 0: return x.open(h, d, name);
            case 1: return x.make(h, d, name, number(0, 1) == 0);
            case 2: return x.erase(d, name);
            case 3: return x.rename(d, name, h, number(-1, 20));
            case 4: return x.write(h, number(-1, 32), number(0, 9));
            case 5: return x.read(h, number(-1, 32));
            case 6: return x.cut(h, number(-1, 8));
            case 7: return x.kind(h);
            case 8: return x.next(d, name);
            case 9: return x.size(h);
            case 10: return x.copies();
            case 11: return x.nodes();
            case 12: return x.save();
            default: return x.crash(number(-1, 3));
        }
    }

    private static void anyNumberOfCallsEnds(Due due) {
        RealTree x = new RealTree(Integer.MAX_VALUE);
        while (x.calls() < ENOUGH) {
            anyCall(x);
        }
        due.is("calls made", x.calls(), ENOUGH);
    }

    private static void savingsAreCountedToTheLastCall(Due due) {
        RealTree saved = new RealTree();
        RealTree crashed = new RealTree();
        RealTree turned = new RealTree();
        for (int call = 1; call <= LAST; call++) {
            due.is("save() as call " + call, saved.save(), call);
            due.is("crash(1) as call " + call, crashed.crash(1), call);
            int got = call % 2 == 0 ? turned.crash(0) : turned.crash(1);
            due.is("crash(1) and crash(0) in turn, call " + call, got, (call + 1) / 2);
        }
    }

    private static void copiesAreFoundToTheLastCall(Due due) {
        RealTree x = new RealTree();
        x.make(1, 0, 0, false);
        for (int round = 1; x.calls() + 3 <= LAST; round++) {
            due.is("write in round " + round, x.write(1, 0, round), 0);
            due.is("save() in round " + round, x.save(), round);
            due.is("copies() in round " + round, x.copies(), 1);
        }
        due.is("read(1, 0)", x.read(1, 0), (LAST - 1) / 3);
    }

    private static void nodesAreFoundToTheLastCall(Due due) {
        RealTree x = new RealTree();
        while (x.calls() + 3 <= LAST) {
            due.is("make(1, 0, 5, true)", x.make(1, 0, 5, true), 0);
            due.is("open(1, 0, -1)", x.open(1, 0, -1), 0);
            due.is("erase(0, 5)", x.erase(0, 5), 0);
        }
        due.is("nodes()", x.nodes(), 1);
    }
}
