import java.util.Arrays;

/**
 * Too few free blocks and too deep a file: each call that such a state can refuse, on both sides
 * of the bound. Above each test stands the sentence of the document that it is for.
 */
public final class RoomEdgesTest {
    private static final Class<?> STATE = IllegalStateException.class;
    private static final Class<?> UNSUPPORTED = UnsupportedOperationException.class;

    private final Checks checks = new Checks();

    public static void main(String[] args) {
        RoomEdgesTest test = new RoomEdgesTest();
        for (int depth = 0; depth <= 5; depth++) {
            test.freeForPut(depth);
            test.freeForPunch(depth);
            test.freeForSpread(depth);
            test.freeForStrip(depth);
            test.freeForWrite(depth);
            test.rootForPut(depth);
            test.rootForPunch(depth);
            test.rootForSpread(depth);
            test.rootForStrip(depth);
            test.rootForWrite(depth);
        }
        for (int depth = 0; depth <= 4; depth++) {
            test.allBlocksAreNeeded(depth);
            test.writeNeedsAGrowingRoot(depth);
        }
        test.deepestSplits();
        test.deepest();
        test.spreadStopsInTheMiddle();
        test.stripStopsInTheMiddle();
        test.everythingIsTaken();
        test.checks.end("RoomEdgesTest");
    }

    /** File 0 with a root of three entries, of this depth, and this many free blocks. */
    private ExtentTree with(int depth, int free) {
        ExtentTree tree = Shapes.deep(depth, 3);
        checks.is("as many are free as wanted", Shapes.leaveFree(tree, free), true);
        checks.is("as deep as wanted", tree.count(0, 1), depth);
        return tree;
    }

    /** Of put: "fewer blocks are free than the file's depth and 1". */
    private void freeForPut(int depth) {
        for (int free = 0; free <= depth; free++) {
            ExtentTree tree = with(depth, free);
            checks.refuses("put, new", UNSUPPORTED, tree, () -> tree.put(0, 5, 1, 7, true));
            // "UnsupportedOperationException is looked at whether blocks will be needed or not."
            checks.refuses("put, joined", UNSUPPORTED, tree,
                    () -> tree.put(0, 60003, 1, 10, false));
        }
        ExtentTree tree = with(depth, depth + 1);
        int runs = tree.count(0, 0);
        checks.is("put, joined", tree.put(0, 60003, 1, 10, false), runs);
        checks.is("put, new", tree.put(0, 5, 1, 7, true), runs + 1);
    }

    /** Of punch: "UnsupportedOperationException: as for put()", of the free blocks. */
    private void freeForPunch(int depth) {
        for (int free = 0; free <= depth; free++) {
            ExtentTree tree = with(depth, free);
            checks.refuses("punch, cut", UNSUPPORTED, tree, () -> tree.punch(0, 60001, 1));
            checks.refuses("punch, whole", UNSUPPORTED, tree, () -> tree.punch(0, 60000, 3));
            checks.refuses("punch, none", UNSUPPORTED, tree, () -> tree.punch(0, 65535, 1));
            checks.refuses("punch, all", UNSUPPORTED, tree, () -> tree.punch(0, 0, 65536));
        }
        checks.is("punch, cut", with(depth, depth + 1).punch(0, 60001, 1), 1);
        checks.is("punch, whole", with(depth, depth + 1).punch(0, 60000, 3), 3);
        checks.is("punch, none", with(depth, depth + 1).punch(0, 65535, 1), 0);
        ExtentTree tree = with(depth, depth + 1);
        int mapped = tree.count(0, 3);
        checks.is("punch, all", tree.punch(0, 0, 65536), mapped);
    }

    /** Of spread: "as long as put() does not throw", of the free blocks. */
    private void freeForSpread(int depth) {
        for (int free = 0; free <= depth; free++) {
            ExtentTree tree = with(depth, free);
            byte[] before = Told.everything(tree);
            checks.is("spread, refused", tree.spread(0, 5, 1, 3, 7), 0);
            checks.is("spread, as before", Arrays.equals(before, Told.everything(tree)), true);
        }
        checks.is("spread", with(depth, depth + 1).spread(0, 5, 1, 1, 7), 1);
    }

    /** Of strip: "as long as it does not throw", of the free blocks. */
    private void freeForStrip(int depth) {
        for (int free = 0; free <= depth; free++) {
            ExtentTree tree = with(depth, free);
            byte[] before = Told.everything(tree);
            checks.is("strip, refused", tree.strip(0, 60001, 1, 3), 0);
            checks.is("strip, as before", Arrays.equals(before, Told.everything(tree)), true);
        }
        checks.is("strip", with(depth, depth + 1).strip(0, 60001, 1, 1), 1);
    }

    /** Of write: "fewer blocks are free than twice the file's depth and 3". */
    private void freeForWrite(int depth) {
        for (int free = 0; free <= 2 * depth + 2; free++) {
            ExtentTree tree = with(depth, free);
            checks.refuses("write, cut", UNSUPPORTED, tree, () -> tree.write(0, 60001, 1));
            checks.refuses("write, whole", UNSUPPORTED, tree, () -> tree.write(0, 60000, 3));
            checks.fails("write, none", STATE, () -> tree.write(0, 60003, 1));
        }
        ExtentTree tree = with(depth, 2 * depth + 3);
        int runs = tree.count(0, 0);
        checks.is("write, cut", tree.write(0, 60001, 1), runs + 2);
        checks.is("written", Told.runs(tree, 0).endsWith("60000:1@7- 60001:1@8+ 60002:1@9-"), true);
        checks.is("write, whole", with(depth, 2 * depth + 3).write(0, 60000, 3), runs);
    }

    /** Of put: "or that is 5, and its root has 4 entries". */
    private void rootForPut(int depth) {
        for (int entries = 1; entries <= 4; entries++) {
            ExtentTree tree = Shapes.deep(depth, entries);
            int runs = tree.count(0, 0);
            if (depth == 5 && entries == 4) {
                checks.refuses("put, new", UNSUPPORTED, tree, () -> tree.put(0, 5, 1, 7, true));
                checks.refuses("put, joined", UNSUPPORTED, tree,
                        () -> tree.put(0, 60003, 1, 10, false));
                checks.fails("put, state first", STATE, () -> tree.put(0, 60002, 1, 7, true));
            } else {
                checks.is("put, joined", tree.put(0, 60003, 1, 10, false), runs);
                checks.is("put, new", tree.put(0, 5, 1, 7, true), runs + 1);
            }
            checks.is("put, another file", tree.put(1, 5, 1, 7, true), 1);
        }
    }

    /** Of punch: "UnsupportedOperationException: as for put()", of the root. */
    private void rootForPunch(int depth) {
        for (int entries = 1; entries <= 4; entries++) {
            ExtentTree tree = Shapes.deep(depth, entries);
            if (depth == 5 && entries == 4) {
                checks.refuses("punch, cut", UNSUPPORTED, tree, () -> tree.punch(0, 60001, 1));
                checks.refuses("punch, none", UNSUPPORTED, tree, () -> tree.punch(0, 5, 1));
                checks.refuses("punch, all", UNSUPPORTED, tree, () -> tree.punch(0, 0, 65536));
            } else {
                int mapped = tree.count(0, 3);
                checks.is("punch, none", tree.punch(0, 5, 1), 0);
                checks.is("punch, cut", tree.punch(0, 60001, 1), 1);
                checks.is("punch, all", tree.punch(0, 0, 65536), mapped - 1);
                checks.is("punch, no runs", tree.count(0, 0), 0);
            }
        }
    }

    /** Of spread: "as long as put() does not throw", of the root. */
    private void rootForSpread(int depth) {
        for (int entries = 1; entries <= 4; entries++) {
            int due = depth == 5 && entries == 4 ? 0 : 1;
            checks.is("spread", Shapes.deep(depth, entries).spread(0, 5, 1, 1, 7), due);
        }
    }

    /** Of strip: "as long as it does not throw", of the root. */
    private void rootForStrip(int depth) {
        for (int entries = 1; entries <= 4; entries++) {
            int due = depth == 5 && entries == 4 ? 0 : 1;
            checks.is("strip", Shapes.deep(depth, entries).strip(0, 60001, 1, 1), due);
        }
    }

    /** Of write: "or the depth is 4 or more, and its root has 4 entries". */
    private void rootForWrite(int depth) {
        for (int entries = 1; entries <= 4; entries++) {
            ExtentTree tree = Shapes.deep(depth, entries);
            int runs = tree.count(0, 0);
            if (depth >= 4 && entries == 4) {
                checks.refuses("write, cut", UNSUPPORTED, tree, () -> tree.write(0, 60001, 1));
                checks.refuses("write, whole", UNSUPPORTED, tree, () -> tree.write(0, 60000, 3));
                checks.fails("write, state first", STATE, () -> tree.write(0, 5, 1));
            } else {
                checks.is("write, cut", tree.write(0, 60001, 1), runs + 2);
            }
        }
    }

    /** File 0 without room in any node from the first leaf to the root, which is of this depth. */
    private static ExtentTree brink(int depth) {
        int runs = Shapes.deep(depth + 1, 1).count(0, 0) - 1;
        ExtentTree tree = new ExtentTree(5);
        for (int i = 0; i < runs; i++) {
            tree.put(0, 60000 - 4 * i, 3, 7, false);
        }
        return tree;
    }

    /** "A block is taken for each .. and a block is taken for that behind them": the last ones. */
    private void allBlocksAreNeeded(int depth) {
        ExtentTree tree = brink(depth);
        checks.is("before it grows", tree.count(0, 1), depth);
        checks.is("a full root", tree.rootByte(0, 2), 4);
        checks.is("just enough", Shapes.leaveFree(tree, depth + 1), true);
        int runs = tree.count(0, 0);
        checks.is("put", tree.put(0, 5, 1, 7, true), runs + 1);
        checks.is("all of them are taken", tree.free(), 0);
        checks.is("deeper by one", tree.count(0, 1), depth + 1);
        checks.is("it is there", tree.look(0, 5), 7);
        checks.fails("no more", UNSUPPORTED, () -> tree.put(0, 1, 1, 7, true));
        ExtentTree fewer = brink(depth);
        checks.is("one too few", Shapes.leaveFree(fewer, depth), true);
        checks.refuses("put", UNSUPPORTED, fewer, () -> fewer.put(0, 5, 1, 7, true));
    }

    /** "File blocks of one run .. are taken out of it, and put in", where no node has room. */
    private void writeNeedsAGrowingRoot(int depth) {
        ExtentTree tree = brink(depth);
        int runs = tree.count(0, 0);
        int first = 60000 - 4 * (runs - 1);
        checks.is("just enough", Shapes.leaveFree(tree, 2 * depth + 3), true);
        if (depth == 4) {
            checks.refuses("write", UNSUPPORTED, tree, () -> tree.write(0, first + 1, 1));
            return;
        }
        checks.is("write", tree.write(0, first + 1, 1), runs + 2);
        checks.is("deeper by one", tree.count(0, 1), depth + 1);
        // A block that a root without blocks grew to is full with the first new entry; one that
        // was split has room for the second.
        checks.is("as many are taken as needed", tree.free(), depth == 0 ? 1 : depth + 2);
        checks.is("three of one", Told.runs(tree, 0).startsWith(
                first + ":1@7- " + (first + 1) + ":1@8+ " + (first + 2) + ":1@9-"), true);
    }

    /** "The depth of a file is .. at most 5": at 5, a root of 3 entries still gets its fourth. */
    private void deepestSplits() {
        int runs = Shapes.deep(5, 4).count(0, 0) - 1;
        for (int free = 5; free <= 6; free++) {
            ExtentTree tree = new ExtentTree(5);
            for (int i = 0; i < runs; i++) {
                tree.put(0, 60000 - 4 * i, 3, 7, false);
            }
            checks.is("three in the root", tree.rootByte(0, 2), 3);
            checks.is("free", Shapes.leaveFree(tree, free), true);
            if (free == 5) {
                // Five would do, but it is not looked at how many will be needed.
                checks.refuses("put", UNSUPPORTED, tree, () -> tree.put(0, 5, 1, 7, true));
            } else {
                checks.is("put", tree.put(0, 5, 1, 7, true), runs + 1);
                checks.is("five are split", tree.free(), 1);
                checks.is("four in the root", tree.rootByte(0, 2), 4);
                checks.is("as deep as before", tree.count(0, 1), 5);
            }
        }
    }

    /** "The depth of a file is its root's .. at most 5." */
    private void deepest() {
        ExtentTree tree = Shapes.deep(5, 4);
        int block = 0;
        for (int depth = 5; depth >= 0; depth--) {
            checks.is("depth", Told.depth(tree, block), depth);
            checks.is("first", Told.number(tree, block, 12, 4), 60000 - 4 * 189);
            block = depth > 0 ? Told.below(tree, block, 0) : 0;
        }
        for (int i = 0; i < 190; i++) {
            checks.is("look", tree.look(0, 60000 - 4 * i + 2), 9);
            checks.is("hole", tree.look(0, 60000 - 4 * i + 3), -1);
        }
    }

    /** "As long as put() does not throw: how many were": the last block is taken on the way. */
    private void spreadStopsInTheMiddle() {
        ExtentTree tree = Shapes.tens(5, 3);
        checks.is("one block is free", Shapes.leaveFree(tree, 1), true);
        checks.is("spread", tree.spread(0, 100, 10, 9, 501), 2);
        checks.is("runs", Told.runs(tree, 0),
                "10:1@101+ 20:1@103+ 30:1@105+ 100:1@501+ 110:1@503+");
        checks.is("none is free", tree.free(), 0);
        checks.is("once more", tree.spread(0, 120, 10, 9, 501), 0);
        ExtentTree inTheWay = Shapes.tens(5, 3);
        checks.is("up to the last", inTheWay.spread(0, 5, 5, 2, 501), 1);
        checks.is("at once", inTheWay.spread(0, 10, 5, 2, 501), 0);
        checks.is("all", inTheWay.spread(0, 7, 5, 2, 501), 2);
    }

    /** "As long as it does not throw: how many were in runs." */
    private void stripStopsInTheMiddle() {
        ExtentTree tree = new ExtentTree(5);
        tree.put(0, 100, 50, 7, true);
        checks.is("one block is free", Shapes.leaveFree(tree, 1), true);
        checks.is("the first is in no run, five are", tree.strip(0, 98, 2, 25), 5);
        checks.is("runs", Told.runs(tree, 0),
                "101:1@8+ 103:1@10+ 105:1@12+ 107:1@14+ 109:41@16+");
        checks.is("none is free", tree.free(), 0);
        checks.is("once more", tree.strip(0, 110, 2, 9), 0);
        ExtentTree roomy = Shapes.tens(5, 3);
        checks.is("none in runs is no end", roomy.strip(0, 5, 5, 6), 3);
        checks.is("none is left", roomy.count(0, 0), 0);
    }

    /** "THE POOL are blocks 1 .. 255": none is free, and each is a node of one file. */
    private void everythingIsTaken() {
        ExtentTree tree = Shapes.tens(5, 20);
        checks.is("none is free", Shapes.leaveFree(tree, 0), true);
        int blocks = 0;
        for (int file = 0; file < 4; file++) {
            blocks += tree.count(file, 2);
            int at = file;
            checks.refuses("put", UNSUPPORTED, tree, () -> tree.put(at, 60000, 1, 7, true));
            checks.refuses("punch", UNSUPPORTED, tree, () -> tree.punch(at, 0, 65536));
        }
        checks.is("blocks", blocks, 255);
        for (int block = 1; block <= 255; block++) {
            checks.is("taken", Told.isTaken(tree, block), true);
        }
    }
}
