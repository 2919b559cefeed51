public final class Promise13NodesTest {
    public static void main(String[] args) {
        Due due = new Due();
        ExtentFileTree x = new ExtentFileTree();
        due.is("nodes()", x.nodes(), 1);
        x.make(1, 0, 0, true);
        x.make(2, 1, 0, false);
        due.is("nodes(), files and directories at any depth", x.nodes(), 3);
        x.rename(1, 0, 0, 1);
        due.is("nodes(), renamed", x.nodes(), 3);
        x.save();
        x.make(2, 0, 2, false);
        due.is("nodes(), made", x.nodes(), 4);
        x.erase(0, 1);
        due.is("nodes(), erased but saved", x.nodes(), 3);
        x.open(2, 0, -1);
        x.erase(0, 2);
        due.is("nodes(), erased", x.nodes(), 2);
        x.crash(0);
        due.is("nodes(), crashed", x.nodes(), 3);
        for (int name = 10; name < 23; name++) {
            x.make(1, 0, name, false);
        }
        due.is("nodes(), all", x.nodes(), 16);
        x.make(1, 0, 50, false);
        due.is("nodes(), refused", x.nodes(), 16);
        due.end();
    }
}
