public final class Promise11SizeTest {
    public static void main(String[] args) {
        Due due = new Due();
        ExtentFileTree x = new ExtentFileTree();
        due.is("size(0)", x.size(0), 0);
        due.is("size(1), nothing", x.size(1), 0);
        x.make(1, 0, 1, true);
        x.make(2, 1, 2, true);
        x.make(3, 2, 3, false);
        due.is("size(0)", x.size(0), 1);
        due.is("size(1), no entries of entries", x.size(1), 1);
        due.is("size(2)", x.size(2), 1);
        due.is("size(3)", x.size(3), 0);
        x.write(3, 3, 0);
        x.write(3, 2, 0);
        x.write(3, 31, 0);
        due.is("size(3)", x.size(3), 2);
        x.save();
        x.write(3, 3, 1);
        due.is("size(3), a new copy", x.size(3), 2);
        x.cut(3, 1);
        due.is("size(3), cut", x.size(3), 1);
        x.rename(2, 3, 0, 4);
        due.is("size(2), moved away", x.size(2), 0);
        due.is("size(0)", x.size(0), 2);
        x.open(3, 0, -1);
        x.erase(0, 4);
        due.is("size(0), erased", x.size(0), 1);
        int[] wrongH = {-1, 4, Integer.MIN_VALUE, Integer.MAX_VALUE};
        for (int h : wrongH) {
            due.is("size(" + h + ")", x.size(h), ExtentFileTree.BAD);
        }
        for (int name = 10; name < 23; name++) {
            due.is("make(3, 0, " + name + ", false)", x.make(3, 0, name, false), 0);
        }
        due.is("size(0), all nodes there can be", x.size(0), 14);
        for (int block = 0; block < 8; block++) {
            x.write(3, block * 4, 1);
        }
        due.is("size(3), all blocks", x.size(3), 8);
        due.end();
    }
}
