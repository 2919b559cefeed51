public final class Promise12CopiesTest {
    public static void main(String[] args) {
        Due due = new Due();
        followsOneBlock(due);
        followsErasing(due);
        eachSavingFreesOldCopies(due);
        due.end();
    }

    private static void followsOneBlock(Due due) {
        ExtentFileTree x = new ExtentFileTree();
        x.make(1, 0, 0, false);
        due.is("copies(), none", x.copies(), 0);
        x.write(1, 0, 1);
        due.is("copies(), present", x.copies(), 1);
        x.save();
        due.is("copies(), in both", x.copies(), 1);
        x.write(1, 0, 2);
        due.is("copies(), one in each", x.copies(), 2);
        x.write(1, 1, 2);
        due.is("copies(), the same copy", x.copies(), 2);
        x.cut(1, 0);
        due.is("copies(), saved alone", x.copies(), 1);
        x.save();
        due.is("copies(), in neither", x.copies(), 0);
    }

    private static void followsErasing(Due due) {
        ExtentFileTree x = new ExtentFileTree();
        x.make(1, 0, 0, false);
        x.write(1, 0, 1);
        x.write(1, 4, 1);
        x.save();
        x.write(1, 8, 1);
        x.open(1, 0, -1);
        x.erase(0, 0);
        due.is("copies(), saved alone", x.copies(), 2);
        x.make(1, 0, 0, false);
        x.write(1, 0, 5);
        due.is("copies(), a new file", x.copies(), 3);
        x.crash(0);
        due.is("copies(), crashed", x.copies(), 2);
        x.open(1, 0, 0);
        due.is("read(1, 0)", x.read(1, 0), 1);
        x.cut(1, 1);
        x.crash(1);
        due.is("copies(), crashed and saved", x.copies(), 1);
    }

    private static void eachSavingFreesOldCopies(Due due) {
        ExtentFileTree x = new ExtentFileTree();
        x.make(1, 0, 0, false);
        for (int round = 1; round <= 60; round++) {
            due.is("write in round " + round, x.write(1, 0, round), 0);
            due.is("copies() in round " + round, x.copies(), round == 1 ? 1 : 2);
            due.is("save()", x.save(), round);
            due.is("copies() after saving " + round, x.copies(), 1);
            due.is("read(1, 0)", x.read(1, 0), round);
        }
    }
}
