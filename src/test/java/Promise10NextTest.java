public final class Promise10NextTest {
    private static final int BAD = ExtentFileTree.BAD;
    private static final int NOTHING = ExtentFileTree.NOTHING;
    private static final int WRONG = ExtentFileTree.WRONG;

    public static void main(String[] args) {
        Due due = new Due();
        findsTheSmallestAbove(due);
        looksAtOneDirectoryOnly(due);
        refusesInOrder(due);
        due.end();
    }

    private static void findsTheSmallestAbove(Due due) {
        int[] names = {40, 0, 99, 41, 7};
        int[] sorted = {0, 7, 40, 41, 99};
        ExtentFileTree x = new ExtentFileTree();
        for (int name : names) {
            x.make(1, 0, name, name % 2 == 0);
        }
        for (int above = -3; above <= 102; above++) {
            int want = NOTHING;
            for (int i = sorted.length - 1; i >= 0; i--) {
                want = sorted[i] > above ? sorted[i] : want;
            }
            due.is("next(0, " + above + ")", x.next(0, above), want);
        }
        due.is("next(0, smallest int)", x.next(0, Integer.MIN_VALUE), 0);
        due.is("next(0, greatest int)", x.next(0, Integer.MAX_VALUE), NOTHING);
        x.erase(0, 0);
        due.is("next(0, -1)", x.next(0, -1), 7);
    }

    private static void looksAtOneDirectoryOnly(Due due) {
        ExtentFileTree x = new ExtentFileTree();
        due.is("next(0, -1)", x.next(0, -1), NOTHING);
        x.make(1, 0, 50, true);
        x.make(2, 1, 3, true);
        x.make(3, 1, 60, false);
        due.is("next(0, -1)", x.next(0, -1), 50);
        due.is("next(0, 50)", x.next(0, 50), NOTHING);
        due.is("next(1, -1)", x.next(1, -1), 3);
        due.is("next(1, 3)", x.next(1, 3), 60);
        due.is("next(1, 60)", x.next(1, 60), NOTHING);
        due.is("next(2, -1)", x.next(2, -1), NOTHING);
        due.is("next(2, smallest int)", x.next(2, Integer.MIN_VALUE), NOTHING);
    }

    private static void refusesInOrder(Due due) {
        ExtentFileTree x = new ExtentFileTree();
        x.make(1, 0, 5, false);
        int[] wrongD = {-1, 4, Integer.MIN_VALUE, Integer.MAX_VALUE};
        for (int d : wrongD) {
            due.is("next(" + d + ", 0)", x.next(d, 0), BAD);
        }
        due.is("next(2, -1)", x.next(2, -1), NOTHING);
        due.is("next(1, -1)", x.next(1, -1), WRONG);
        due.is("next(1, 99)", x.next(1, 99), WRONG);
    }
}
