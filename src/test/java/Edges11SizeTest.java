/** The sentence of promise 11, at its bounds and one step to each side of them. */
public final class Edges11SizeTest {
    private static final int BAD = ExtentFileTree.BAD;
    private static final int[] NO_HANDLE = {Integer.MIN_VALUE, -2, -1, 4, 5, Integer.MAX_VALUE};

    public static void main(String[] args) {
        Due due = new Due();
        hFrom0To3(due);
        entriesFrom0To15(due);
        blocksFrom0To8(due);
        entriesOfThisDirectoryOnly(due);
        due.end();
    }

    /** "0 if it refers to nothing; BAD for h outside 0..3" */
    private static void hFrom0To3(Due due) {
        Edge at = new Edge(due, "entries in the top, no handle used", x -> {
            x.make(1, 0, 5, true);
            x.make(2, 0, 6, false);
            x.write(2, 0, 1);
            x.crash(1);
        });
        for (int h : NO_HANDLE) {
            at.keeps(BAD, x -> x.size(h));
        }
        at.keeps(2, x -> x.size(0));
        for (int h = 1; h <= 3; h++) {
            int handle = h;
            at.keeps(0, x -> x.size(handle));
            due.is("size(" + h + "), an empty directory", at.changes(0, x -> x.open(handle, 0, 5)).size(h), 0);
            due.is("size(" + h + "), a file", at.changes(0, x -> x.open(handle, 0, 6)).size(h), 1);
            due.is("size(" + h + "), the top", at.changes(0, x -> x.open(handle, 0, -1)).size(h), 2);
        }
    }

    /** "The number of entries of the directory" */
    private static void entriesFrom0To15(Due due) {
        for (int count = 0; count <= 15; count++) {
            int entries = count;
            Edge at = new Edge(due, count + " entries", x -> {
                for (int name = 0; name < entries; name++) {
                    x.make(1, 0, name, name % 2 == 0);
                }
            });
            at.keeps(count, x -> x.size(0));
        }
        Edge full = new Edge(due, "14 entries below the top", x -> {
            x.make(1, 0, 5, true);
            for (int name = 0; name < 14; name++) {
                x.make(2, 1, name, false);
            }
        });
        full.keeps(1, x -> x.size(0));
        full.keeps(14, x -> x.size(1));
        full.keeps(ExtentFileTree.FULL, x -> x.make(2, 1, 20, false));
        due.is("size(1), one less", full.changes(0, x -> x.erase(1, 0)).size(1), 13);
    }

    /** "or of blocks of the file, of handle h" */
    private static void blocksFrom0To8(Due due) {
        for (int count = 0; count <= 8; count++) {
            int blocks = count;
            Edge at = new Edge(due, count + " blocks", x -> {
                x.make(1, 0, 5, false);
                for (int block = 8 - blocks; block < 8; block++) {
                    x.write(1, block * 4 + block % 4, 0);
                }
            });
            at.keeps(count, x -> x.size(1));
            at.keeps(1, x -> x.size(0));
        }
        Edge saved = new Edge(due, "a saved block written anew", x -> {
            x.make(1, 0, 5, false);
            x.write(1, 0, 1);
            x.save();
            x.write(1, 0, 2);
        });
        saved.keeps(1, x -> x.size(1));
        due.is("size(1), cut though saved", saved.changes(1, x -> x.cut(1, 0)).size(1), 0);
    }

    private static void entriesOfThisDirectoryOnly(Due due) {
        Edge at = new Edge(due, "a directory in a directory in the top", x -> {
            x.make(1, 0, 5, true);
            x.make(2, 1, 5, true);
            x.make(3, 2, 5, false);
            x.make(3, 2, 6, false);
        });
        at.keeps(1, x -> x.size(0));
        at.keeps(1, x -> x.size(1));
        at.keeps(2, x -> x.size(2));
        at.keeps(0, x -> x.size(3));
        RealTree x = at.changes(0, y -> y.rename(2, 6, 1, 6));
        due.is("size(1)", x.size(1), 2);
        due.is("size(2)", x.size(2), 1);
    }
}
