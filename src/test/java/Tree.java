/** The calls of the document, so that the class and the model can be put to the same ones. */
interface Tree {
    int open(int h, int d, int name);

    int make(int h, int d, int name, boolean directory);

    int erase(int d, int name);

    int rename(int d, int name, int e, int other);

    int write(int h, int cell, int value);

    int read(int h, int cell);

    int cut(int h, int block);

    int kind(int h);

    int next(int d, int name);

    int size(int h);

    int copies();

    int nodes();

    int save();

    int crash(int when);
}
