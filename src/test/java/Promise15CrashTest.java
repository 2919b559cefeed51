public final class Promise15CrashTest {
    public static void main(String[] args) {
        Due due = new Due();
        losesWhatWasNotSaved(due, 0);
        losesWhatWasNotSaved(due, 2);
        keepsWhatItSaved(due);
        handlesReferToNothing(due);
        refusesOtherTimes(due);
        crashesAgainAndAgain(due);
        due.end();
    }

    private static RealTree saved() {
        RealTree x = new RealTree();
        x.make(1, 0, 1, true);
        x.make(2, 1, 2, false);
        x.write(2, 0, 10);
        x.write(2, 4, 11);
        x.save();
        return x;
    }

    private static RealTree changed() {
        RealTree x = saved();
        x.write(2, 0, 20);
        x.write(2, 31, 21);
        x.rename(1, 2, 0, 3);
        x.make(3, 1, 4, true);
        return x;
    }

    private static RealTree crashed(int... whens) {
        RealTree x = changed();
        for (int when : whens) {
            x.crash(when);
        }
        return x;
    }

    private static RealTree changedAndSaved() {
        RealTree x = changed();
        x.save();
        return x;
    }

    private static void losesWhatWasNotSaved(Due due, int when) {
        String want = Observer.present(Promise15CrashTest::saved);
        RealTree x = changed();
        due.is("crash(" + when + ")", x.crash(when), 1);
        due.is("crash(" + when + ") again", x.crash(when), 1);
        due.is("save()", x.save(), 2);
        due.same("the nodes after one", Observer.present(() -> crashed(when)), want);
        due.same("the nodes after two", Observer.present(() -> crashed(when, when)), want);
    }

    private static void keepsWhatItSaved(Due due) {
        String want = Observer.present(Promise15CrashTest::changedAndSaved);
        RealTree x = changed();
        due.is("crash(1)", x.crash(1), 2);
        due.is("crash(0)", x.crash(0), 2);
        due.is("save()", x.save(), 3);
        due.same("the nodes after crash(1)", Observer.present(() -> crashed(1)), want);
        due.same("the nodes after crash(0)", Observer.present(() -> crashed(1, 0)), want);
    }

    private static void handlesReferToNothing(Due due) {
        for (int when = 0; when <= 2; when++) {
            RealTree x = saved();
            x.open(3, 0, -1);
            x.crash(when);
            for (int h = 1; h <= 3; h++) {
                due.is("kind(" + h + ") after crash(" + when + ")", x.kind(h), 0);
            }
            due.is("kind(0)", x.kind(0), 1);
            due.is("erase(0, 1), a directory with entries", x.erase(0, 1), ExtentFileTree.FULL);
            x.open(1, 0, 1);
            due.is("erase(1, 2), no handle is there", x.erase(1, 2), 0);
        }
    }

    private static void refusesOtherTimes(Due due) {
        int[] wrongWhen = {-1, 3, Integer.MIN_VALUE, Integer.MAX_VALUE};
        RealTree x = changed();
        for (int when : wrongWhen) {
            due.is("crash(" + when + ")", x.crash(when), ExtentFileTree.BAD);
        }
        due.is("kind(1)", x.kind(1), 1);
        due.is("read(2, 0)", x.read(2, 0), 20);
        due.is("read(2, 31)", x.read(2, 31), 21);
        due.is("kind(3)", x.kind(3), 1);
        due.is("crash(0)", x.crash(0), 1);
        due.same("what is seen after them", Observer.all(() -> crashed(wrongWhen)),
                Observer.all(Promise15CrashTest::changed));
    }

    private static RealTree crashedAgainAndAgain(Due due) {
        RealTree x = saved();
        for (int round = 1; round <= 30; round++) {
            x.open(1, 0, 1);
            x.open(2, 1, 2);
            for (int block = 0; block < 8; block++) {
                due.is("write in round " + round, x.write(2, block * 4, round), 0);
            }
            due.is("copies()", x.copies(), 10);
            due.is("crash", x.crash(round % 2 * 2), 1);
        }
        return x;
    }

    private static void crashesAgainAndAgain(Due due) {
        due.same("the nodes", Observer.present(() -> crashedAgainAndAgain(due)),
                Observer.present(Promise15CrashTest::saved));
    }
}
