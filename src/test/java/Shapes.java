/** Objects in the states that tests begin with. */
final class Shapes {
    private Shapes() {
    }

    /** Written runs of one block at 10, 20, 30 .. of file 0, none of which can be joined. */
    static ExtentTree tens(int m, int many) {
        ExtentTree tree = new ExtentTree(m);
        tree.spread(0, 10, 10, many, 101);
        return tree;
    }

    /**
     * File 0 with a root of this depth and this many entries. Its runs are put in from the back,
     * three blocks each and one between, which makes the slimmest nodes; none is written.
     */
    static ExtentTree deep(int depth, int entries) {
        ExtentTree tree = new ExtentTree(5);
        int first = 60000;
        while (first > 0 && !(tree.count(0, 1) == depth && tree.rootByte(0, 2) == entries)) {
            tree.put(0, first, 3, 7, false);
            first -= 4;
        }
        return tree;
    }

    /** Files 1 to 3 take blocks until just as many as these are free; false if they can't. */
    static boolean leaveFree(ExtentTree tree, int free) {
        int block = 0;
        while (tree.free() > free + 5 && block < 4000) {
            tree.put(1, block, 1, 7, true);
            block += 2;
        }
        // A shallow file takes one block at a time, and one without blocks can take the last.
        while (tree.free() > free + 1 && block < 5000) {
            tree.put(2, block, 1, 7, true);
            block += 2;
        }
        while (tree.free() > free && block < 6000) {
            tree.put(3, block, 1, 7, true);
            block += 2;
        }
        return tree.free() == free;
    }
}
