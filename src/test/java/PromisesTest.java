import java.util.Arrays;

/** Each promise of the document, with answers that were worked out from its words by hand. */
public final class PromisesTest {
    private static final Class<?> ARGUMENT = IllegalArgumentException.class;
    private static final Class<?> STATE = IllegalStateException.class;
    private static final Class<?> UNSUPPORTED = UnsupportedOperationException.class;
    private static final Class<?> INDEX = IndexOutOfBoundsException.class;
    private static final int LAST_VOLUME = 16777216;
    private static final int[] WRONG_FILES = {Integer.MIN_VALUE, -1, 4, Integer.MAX_VALUE};
    private static final int[] WRONG_BLOCKS = {Integer.MIN_VALUE, -1, 65536, Integer.MAX_VALUE};

    private final Checks checks = new Checks();

    public static void main(String[] args) {
        PromisesTest test = new PromisesTest();
        test.newObject();
        test.putJoins();
        test.putLengths();
        test.putRefuses();
        test.putWithoutBlocks();
        test.justEnoughBlocks();
        test.putTooDeep();
        test.newEntrySplits();
        test.newEntryGrows();
        test.entryGoes();
        test.spread();
        test.spreadStops();
        test.punch();
        test.punchRefuses();
        test.strip();
        test.stripStops();
        test.write();
        test.writeMovesAnEntry();
        test.writeSettlesAtItsEnd();
        test.writeRefuses();
        test.look();
        test.written();
        test.reach();
        test.count();
        test.free();
        test.rootByte();
        test.nodeByte();
        test.afterAThrow();
        test.checks.end("PromisesTest");
    }

    private void runs(String what, ExtentTree tree, int... due) {
        checks.is(what + ": runs", tree.count(0, 0), due.length / 2);
        for (int i = 0; i + 1 < due.length; i += 2) {
            checks.is(what + ": look " + due[i], tree.look(0, due[i]) >= 0, true);
            checks.is(what + ": reach " + due[i], tree.reach(0, due[i]), due[i + 1]);
        }
    }

    private void newObject() {
        int[] asked = {Integer.MIN_VALUE, -1, 0, 4, 5, 6, 83, 84, 85, Integer.MAX_VALUE};
        int[] due = {5, 5, 5, 5, 5, 6, 83, 84, 84, 84};
        for (int i = 0; i < asked.length; i++) {
            ExtentTree tree = new ExtentTree(asked[i]);
            checks.is("new, free", tree.free(), 255);
            for (int file = 0; file < 4; file++) {
                for (int what = 0; what < 5; what++) {
                    checks.is("new, count " + what, tree.count(file, what), 0);
                }
                checks.is("new, look", tree.look(file, 0), -1);
                checks.is("new, written", tree.written(file, 0), false);
                checks.is("new, reach", tree.reach(file, 0), 65536);
                checks.is("new, entries", tree.rootByte(file, 2), 0);
            }
            checks.is("room for many", tree.spread(0, 0, 2, due[i], 1), due[i]);
            checks.is("one block holds them", tree.count(0, 2), 1);
            checks.is("m told", tree.nodeByte(1, 4), due[i]);
            tree.put(0, 60000, 1, 1, true);
            checks.is("one more, and it is split", tree.count(0, 2), 2);
        }
    }

    private void putJoins() {
        ExtentTree tree = new ExtentTree(5);
        checks.is("a run", tree.put(0, 100, 10, 1000, true), 1);
        checks.is("joined before it", tree.put(0, 90, 10, 990, true), 1);
        checks.is("joined behind it", tree.put(0, 110, 10, 1010, true), 1);
        runs("joined", tree, 90, 30);
        checks.is("begins earlier", tree.look(0, 90), 990);
        checks.is("apart", tree.put(0, 130, 10, 1030, true), 2);
        checks.is("between two", tree.put(0, 120, 10, 1020, true), 1);
        runs("all one", tree, 90, 50);
        checks.is("other volume behind", tree.put(0, 140, 5, 1041, true), 2);
        checks.is("other volume before", tree.put(0, 85, 5, 984, true), 3);
        checks.is("not yet written behind", tree.put(0, 145, 5, 1046, false), 4);
        runs("not joined", tree, 85, 5, 90, 50, 140, 5, 145, 5);
        tree = new ExtentTree(5);
        tree.put(0, 0, 5, 50, true);
        tree.put(0, 6, 5, 56, false);
        checks.is("joined with the second only", tree.put(0, 5, 1, 55, false), 2);
        runs("with the second", tree, 0, 5, 5, 6);
        checks.is("which begins earlier", tree.look(0, 5), 55);
        checks.is("the first stays as it is", tree.written(0, 4), true);
        tree.put(1, 0, 1, 50, true);
        checks.is("the other files are others", tree.count(0, 0), 2);
    }

    private void putLengths() {
        ExtentTree tree = new ExtentTree(84);
        checks.is("longest written", tree.put(0, 0, 32768, 1, true), 1);
        checks.is("too long for one", tree.put(0, 32768, 1, 32769, true), 2);
        checks.is("longest behind", tree.put(0, 32769, 32767, 32770, true), 1 + 1);
        runs("two longest", tree, 0, 32768, 32768, 32768);
        tree = new ExtentTree(84);
        checks.is("longest unwritten", tree.put(0, 1, 32767, 2, false), 1);
        checks.is("too long before", tree.put(0, 0, 1, 1, false), 2);
        checks.is("too long behind", tree.put(0, 32768, 1, 32769, false), 3);
        runs("unwritten", tree, 0, 1, 1, 32767, 32768, 1);
        tree = new ExtentTree(84);
        tree.put(0, 0, 16384, 1, false);
        tree.put(0, 16385, 16383, 16386, false);
        checks.is("joined before, too long behind", tree.put(0, 16384, 1, 16385, false), 2);
        runs("the run before has it", tree, 0, 16385, 16385, 16383);
        tree = new ExtentTree(84);
        tree.put(0, 0, 32768, 1, true);
        tree.put(0, 32769, 7, 32770, true);
        checks.is("too long before, joined behind", tree.put(0, 32768, 1, 32769, true), 2);
        runs("the run behind has it", tree, 0, 32768, 32768, 8);
    }

    private void putRefuses() {
        ExtentTree tree = new ExtentTree(5);
        tree.put(0, 100, 10, 1000, true);
        for (int file : WRONG_FILES) {
            checks.fails("put file", ARGUMENT, () -> tree.put(file, 0, 1, 1, true));
        }
        for (int first : WRONG_BLOCKS) {
            checks.fails("put first", ARGUMENT, () -> tree.put(0, first, 1, 1, true));
        }
        for (int length : new int[] {Integer.MIN_VALUE, -1, 0, 32769, Integer.MAX_VALUE}) {
            checks.fails("put length", ARGUMENT, () -> tree.put(1, 0, length, 1, true));
        }
        checks.fails("put unwritten length", ARGUMENT, () -> tree.put(1, 0, 32768, 1, false));
        checks.fails("put past the end", ARGUMENT, () -> tree.put(1, 65534, 3, 1, true));
        for (int volume : new int[] {Integer.MIN_VALUE, -1, 0, LAST_VOLUME, Integer.MAX_VALUE}) {
            checks.fails("put volume", ARGUMENT, () -> tree.put(1, 0, 2, volume, true));
        }
        checks.is("put the last blocks", tree.put(1, 65534, 2, LAST_VOLUME - 1, true), 1);
        checks.is("put the first ones", tree.put(1, 0, 1, 1, true), 2);
        for (int first : new int[] {95, 99, 100, 105, 109}) {
            checks.fails("put into a run", STATE, () -> tree.put(0, first, 6, 1, true));
        }
        checks.fails("put over a run", STATE, () -> tree.put(0, 0, 200, 1, true));
        checks.fails("argument before state", ARGUMENT, () -> tree.put(0, 100, 1, 0, true));
        checks.is("just before", tree.put(0, 94, 6, 1, true), 2);
        checks.is("just behind", tree.put(0, 110, 6, 1, true), 3);
    }

    private void putWithoutBlocks() {
        ExtentTree tree = new ExtentTree(5);
        tree.spread(0, 0, 2, 2000, 1);
        int free = tree.free();
        int depth = tree.count(0, 1);
        checks.is("stopped for want of blocks", free < depth + 1, true);
        checks.fails("put", UNSUPPORTED, () -> tree.put(0, 60000, 1, 1, true));
        checks.fails("put that would join", UNSUPPORTED, () -> tree.put(0, 1, 1, 2, true));
        checks.fails("state first", STATE, () -> tree.put(0, 0, 1, 9, true));
        checks.fails("argument first", ARGUMENT, () -> tree.put(0, 65536, 1, 9, true));
        for (int file = 1; file < 4; file++) {
            tree.spread(file, 0, 2, 2000, 1);
            checks.is("as many free as depth", tree.free() <= tree.count(file, 1), true);
        }
        int last = tree.free();
        checks.fails("all four", UNSUPPORTED, () -> tree.put(3, 60000, 1, 1, true));
        checks.is("nothing changed", tree.free(), last);
    }

    /** An object whose file 0 has runs that are not yet written, and the others most blocks. */
    private static ExtentTree crowded(int runs, int others) {
        ExtentTree tree = new ExtentTree(5);
        for (int i = 0; i < runs; i++) {
            tree.put(0, 10 * i, 3, 100 * i + 1, false);
        }
        tree.spread(1, 0, 2, 400 + others / 15, 1);
        tree.spread(2, 0, 2, 1 + others % 15, 1);
        tree.spread(3, 0, 2, 1 + others % 15, 1);
        return tree;
    }

    private void justEnoughBlocks() {
        int[] runs = {1, 6, 16};
        for (int depth = 0; depth < runs.length; depth++) {
            boolean[] seen = new boolean[256];
            for (int others = 0; others < 1500; others++) {
                int left = crowded(runs[depth], others).free();
                if (!seen[left] && left < 12) {
                    seen[left] = true;
                    justEnoughBlocks(depth, runs[depth], others);
                }
            }
            checks.is("depth and 1", seen[depth + 1], true);
            checks.is("fewer", seen[depth], true);
            checks.is("twice the depth and 3", seen[2 * depth + 3], true);
            checks.is("fewer than that", seen[2 * depth + 2], true);
        }
    }

    private void justEnoughBlocks(int depth, int runs, int others) {
        ExtentTree putInto = crowded(runs, others);
        checks.is("depth", putInto.count(0, 1), depth);
        int left = putInto.free();
        String with = " at depth " + depth + " with " + left;
        if (left >= depth + 1) {
            checks.is("put" + with, putInto.put(0, 5, 1, 1, true), runs + 1);
            checks.is("punch" + with, crowded(runs, others).punch(0, 1, 1), 1);
        } else {
            checks.fails("put" + with, UNSUPPORTED, () -> putInto.put(0, 5, 1, 1, true));
            checks.fails("punch" + with, UNSUPPORTED, () -> putInto.punch(0, 1, 1));
        }
        ExtentTree written = crowded(runs, others);
        if (left >= 2 * depth + 3) {
            checks.is("write" + with, written.write(0, 1, 1), runs + 2);
        } else {
            checks.fails("write" + with, UNSUPPORTED, () -> written.write(0, 1, 1));
        }
    }

    private void putTooDeep() {
        ExtentTree tree = new ExtentTree(5);
        int first = 65000;
        while (first > 0 && !(tree.count(0, 1) == 5 && tree.rootByte(0, 2) == 4)) {
            tree.put(0, first, 1, 7, true);
            first -= 3;
        }
        int next = first;
        checks.is("deepest", tree.count(0, 1), 5);
        checks.is("enough blocks are free", tree.free() >= 13, true);
        checks.fails("put", UNSUPPORTED, () -> tree.put(0, next, 1, 7, true));
        checks.fails("put that would join", UNSUPPORTED, () -> tree.put(0, 65001, 1, 8, true));
        checks.fails("punch", UNSUPPORTED, () -> tree.punch(0, 65000, 1));
        checks.is("spread", tree.spread(0, 10, 1, 5, 1), 0);
        checks.is("strip", tree.strip(0, 65000, 1, 5), 0);
        checks.is("another file", tree.put(1, 0, 1, 1, true), 1);
    }

    private void newEntrySplits() {
        ExtentTree tree = Shapes.tens(5, 6);
        checks.is("root", Told.firsts(tree, 0), "10 40");
        checks.is("below", Told.below(tree, 0), "1 2");
        checks.is("old block", Told.firsts(tree, 1), "10 20 30");
        checks.is("new block", Told.firsts(tree, 2), "40 50 60");
        tree.put(0, 35, 1, 7, true);
        tree.put(0, 37, 1, 7, true);
        checks.is("behind the run before", Told.firsts(tree, 1), "10 20 30 35 37");
        tree.put(0, 15, 1, 7, true);
        checks.is("into the old one", Told.firsts(tree, 1), "10 15 20 30");
        checks.is("cut off", Told.firsts(tree, 3), "35 37");
        checks.is("root with three", Told.firsts(tree, 0), "10 35 40");
        checks.is("in order", Told.below(tree, 0), "1 3 2");
        tree = Shapes.tens(5, 5);
        tree.put(0, 35, 1, 7, true);
        checks.is("k is h", Told.firsts(tree, 1), "10 20 30 35");
        checks.is("k is h, new", Told.firsts(tree, 2), "40 50");
        tree = Shapes.tens(5, 5);
        tree.put(0, 45, 1, 7, true);
        checks.is("k is h and 1", Told.firsts(tree, 1), "10 20 30");
        checks.is("k is h and 1, new", Told.firsts(tree, 2), "40 45 50");
        tree = Shapes.tens(6, 7);
        checks.is("half of 6 and 1, cut", Told.firsts(tree, 1), "10 20 30");
        checks.is("the rest", Told.firsts(tree, 2), "40 50 60 70");
        tree = Shapes.tens(5, 5);
        tree.put(0, 5, 1, 7, true);
        checks.is("first of all", Told.firsts(tree, 0), "5 40");
        checks.is("in the first leaf", Told.firsts(tree, 1), "5 10 20 30");
    }

    private void newEntryGrows() {
        ExtentTree tree = Shapes.tens(5, 4);
        checks.is("in the root", Told.firsts(tree, 0), "10 20 30 40");
        checks.is("no block", tree.count(0, 2), 0);
        tree.put(0, 25, 1, 7, true);
        checks.is("root above one", Told.firsts(tree, 0), "10");
        checks.is("leaf", Told.firsts(tree, 1), "10 20 25 30 40");
        checks.is("depth", tree.count(0, 1), 1);
        tree = Shapes.tens(5, 14);
        checks.is("full root", Told.below(tree, 0), "1 2 3 4");
        checks.is("full leaf", Told.firsts(tree, 4), "100 110 120 130 140");
        tree.put(0, 150, 1, 7, true);
        checks.is("the leaf's block is taken first", Told.firsts(tree, 5), "130 140 150");
        checks.is("then the root's", Told.below(tree, 0), "6");
        checks.is("which has all", Told.below(tree, 6), "1 2 3 4 5");
        checks.is("their firsts", Told.firsts(tree, 6), "10 40 70 100 130");
        checks.is("root's depth", Told.number(tree, 0, 6, 2), 2);
        checks.is("block's depth", Told.number(tree, 6, 6, 2), 1);
        checks.is("leaf's depth", Told.number(tree, 5, 6, 2), 0);
        tree = Shapes.tens(5, 17);
        tree.put(0, 180, 1, 7, true);
        checks.is("two in a row are split", Told.below(tree, 0), "6 8");
        checks.is("the leaf's first", Told.firsts(tree, 7), "160 170 180");
        checks.is("old one above", Told.below(tree, 6), "1 2 3");
        checks.is("new one above", Told.below(tree, 8), "4 5 7");
    }

    private void entryGoes() {
        ExtentTree tree = Shapes.tens(5, 7);
        tree.punch(0, 10, 25);
        checks.is("an empty block is given back", tree.free(), 255);
        checks.is("and the root has the rest", Told.firsts(tree, 0), "40 50 60 70");
        tree = Shapes.tens(5, 8);
        tree.punch(0, 10, 1);
        checks.is("begins later above", Told.firsts(tree, 0), "20 40");
        tree.punch(0, 20, 11);
        checks.is("five are too many for a root", Told.below(tree, 0), "2");
        tree.put(0, 90, 1, 7, true);
        checks.is("the least free one is taken", Told.below(tree, 0), "2 1");
        tree = Shapes.tens(5, 15);
        checks.is("two deep", tree.count(0, 1), 2);
        tree.punch(0, 20, 65500);
        checks.is("up by two at once", Told.firsts(tree, 0), "10");
        checks.is("none deep", tree.count(0, 1), 0);
        checks.is("none taken", tree.free(), 255);
        tree.punch(0, 0, 65536);
        checks.is("all gone", tree.count(0, 1), 0);
        checks.is("all free", tree.free(), 255);
        // The one behind, which is alone in its leaf, goes when three become one.
        tree = new ExtentTree(5);
        tree.spread(0, 10, 10, 5, 100);
        tree.put(0, 60, 1, 500, true);
        tree.punch(0, 40, 11);
        tree.put(0, 58, 1, 498, true);
        checks.is("before it", Told.firsts(tree, 1), "10 20 30 58");
        checks.is("alone", Told.firsts(tree, 2), "60");
        checks.is("three become one", tree.put(0, 59, 1, 499, true), 4);
        checks.is("both blocks are given back", tree.free(), 255);
        checks.is("the root has all", Told.firsts(tree, 0), "10 20 30 58");
        checks.is("longer", tree.reach(0, 58), 3);
    }

    private void spread() {
        ExtentTree tree = new ExtentTree(84);
        checks.is("spread", tree.spread(2, 3, 5, 4, 50), 4);
        for (int i = 0; i < 4; i++) {
            checks.is("volume by two", tree.look(2, 3 + 5 * i), 50 + 2 * i);
            checks.is("written", tree.written(2, 3 + 5 * i), true);
        }
        checks.is("runs", tree.count(2, 0), 4);
        checks.is("blocks", tree.count(2, 3), 4);
        checks.is("side by side, not joined", tree.spread(3, 0, 1, 3, 1), 3);
        checks.is("three runs", tree.count(3, 0), 3);
        checks.is("last of both", tree.spread(0, 65533, 2, 2, LAST_VOLUME - 2), 2);
        checks.is("last volume block", tree.look(0, 65535), LAST_VOLUME);
        checks.is("longest step", tree.spread(0, 0, 2000, 2, 1), 2);
        checks.is("most", tree.spread(1, 0, 1, 2000, 1), 2000);
        for (int file : WRONG_FILES) {
            checks.fails("file", ARGUMENT, () -> tree.spread(file, 0, 1, 1, 1));
        }
        for (int first : WRONG_BLOCKS) {
            checks.fails("first", ARGUMENT, () -> tree.spread(0, first, 1, 1, 1));
        }
        for (int odd : new int[] {Integer.MIN_VALUE, -1, 0, 2001, Integer.MAX_VALUE}) {
            checks.fails("step", ARGUMENT, () -> tree.spread(0, 9, odd, 1, 1));
            checks.fails("many", ARGUMENT, () -> tree.spread(0, 9, 1, odd, 1));
        }
        for (int volume : new int[] {-1, 0, LAST_VOLUME + 1, Integer.MAX_VALUE}) {
            checks.fails("volume", ARGUMENT, () -> tree.spread(0, 9, 1, 1, volume));
        }
        checks.fails("past the file", ARGUMENT, () -> tree.spread(0, 65533, 3, 2, 1));
        checks.fails("past the volume", ARGUMENT, () -> tree.spread(0, 9, 1, 2, LAST_VOLUME - 1));
        checks.is("nothing was put in", tree.look(0, 9), -1);
    }

    private void spreadStops() {
        ExtentTree tree = new ExtentTree(5);
        tree.put(0, 30, 1, 999, false);
        checks.is("until one is in a run", tree.spread(0, 0, 10, 9, 100), 3);
        checks.is("the three stay", tree.count(0, 0), 4);
        checks.is("none behind it", tree.look(0, 40), -1);
        checks.is("at once", tree.spread(0, 30, 1, 9, 1), 0);
        tree = new ExtentTree(5);
        tree.put(0, 0, 1, 10, true);
        tree.put(0, 2, 1, 12, true);
        checks.is("joins", tree.spread(0, 1, 2, 2, 11), 2);
        // 0 .. 2 are one run, and 3 is right behind it.
        runs("joined", tree, 0, 4);
        // Each is a put() of its own: the root has the four that are left after the first of
        // these, block 1 is free then, and the second one takes it.
        tree = new ExtentTree(5);
        tree.put(1, 0, 1, 1, true);
        tree.spread(1, 10, 10, 4, 500);
        tree.put(0, 0, 1, 10, true);
        tree.put(0, 2, 1, 12, true);
        tree.spread(0, 10, 10, 3, 500);
        tree.punch(1, 0, 65536);
        checks.is("block 2", Told.below(tree, 0), "2");
        checks.is("one that joins, one that does not", tree.spread(0, 1, 4, 2, 11), 2);
        checks.is("block 1", Told.below(tree, 0), "1");
    }

    private void punch() {
        ExtentTree tree = new ExtentTree(5);
        tree.put(0, 100, 100, 1000, false);
        checks.is("none there", tree.punch(0, 0, 100), 0);
        checks.is("the first ones", tree.punch(0, 90, 20), 10);
        runs("begins later", tree, 110, 90);
        checks.is("volume", tree.look(0, 110), 1010);
        checks.is("the last ones", tree.punch(0, 190, 20), 10);
        runs("shorter", tree, 110, 80);
        checks.is("the middle", tree.punch(0, 140, 10), 10);
        runs("two", tree, 110, 30, 150, 40);
        checks.is("volume behind", tree.look(0, 150), 1050);
        checks.is("still not written", tree.count(0, 4), 0);
        tree.put(0, 300, 5, 5000, true);
        checks.is("of three", tree.punch(0, 120, 182), 20 + 40 + 2);
        runs("what is left", tree, 110, 10, 302, 3);
        checks.is("written behind", tree.look(0, 302), 5002);
        checks.is("one", tree.punch(0, 303, 1), 1);
        runs("cut", tree, 110, 10, 302, 1, 304, 1);
        checks.is("all", tree.punch(0, 0, 65536), 12);
        checks.is("no runs", tree.count(0, 0), 0);
        tree = Shapes.tens(5, 4);
        tree.put(0, 50, 3, 700, true);
        tree.punch(0, 51, 1);
        checks.is("a new entry right behind its own", Told.firsts(tree, 2), "40 50 52");
        tree.punch(0, 30, 30);
        checks.is("a leaf goes, the rest is the root's", Told.firsts(tree, 0), "10 20");
        checks.is("no depth", tree.count(0, 1), 0);
        checks.is("no block", tree.free(), 255);
    }

    private void punchRefuses() {
        ExtentTree tree = new ExtentTree(5);
        for (int file : WRONG_FILES) {
            checks.fails("punch file", ARGUMENT, () -> tree.punch(file, 0, 1));
        }
        for (int first : WRONG_BLOCKS) {
            checks.fails("punch first", ARGUMENT, () -> tree.punch(0, first, 1));
        }
        for (int length : new int[] {Integer.MIN_VALUE, -1, 0, 65537, Integer.MAX_VALUE}) {
            checks.fails("punch length", ARGUMENT, () -> tree.punch(0, 0, length));
        }
        checks.fails("punch past the end", ARGUMENT, () -> tree.punch(0, 65535, 2));
        checks.is("the last block", tree.punch(0, 65535, 1), 0);
        tree.spread(0, 0, 2, 2000, 1);
        int runs = tree.count(0, 0);
        checks.fails("no blocks", UNSUPPORTED, () -> tree.punch(0, 0, 1));
        checks.fails("none to take out", UNSUPPORTED, () -> tree.punch(0, 1, 1));
        checks.fails("argument first", ARGUMENT, () -> tree.punch(0, 0, 0));
        checks.is("nothing changed", tree.count(0, 0), runs);
    }

    private void strip() {
        ExtentTree tree = new ExtentTree(5);
        tree.put(0, 0, 100, 1, true);
        checks.is("every tenth", tree.strip(0, 5, 10, 4), 4);
        runs("stripped", tree, 0, 5, 6, 9, 16, 9, 26, 9, 36, 64);
        checks.is("once more", tree.strip(0, 5, 10, 4), 0);
        checks.is("side by side", tree.strip(0, 90, 1, 20), 10);
        checks.is("longest step", tree.strip(0, 89, 2000, 2), 1);
        checks.is("most", tree.strip(0, 0, 1, 2000), 100 - 4 - 10 - 1);
        checks.is("the end", tree.strip(0, 65534, 1, 2), 0);
        // Each is a punch() of its own: the first one leaves four, which the root has then, so
        // that the cut made by the second one takes block 1, which is free.
        ExtentTree settled = new ExtentTree(5);
        settled.spread(1, 0, 2, 5, 1);
        settled.put(0, 0, 1, 1, true);
        settled.put(0, 4, 3, 100, true);
        settled.spread(0, 10, 10, 3, 500);
        settled.punch(1, 0, 65536);
        checks.is("block 2", Told.below(settled, 0), "2");
        checks.is("one that goes, one that is cut", settled.strip(0, 0, 5, 2), 2);
        checks.is("block 1", Told.below(settled, 0), "1");
        checks.is("cut", Told.firsts(settled, 1), "4 6 10 20 30");
        for (int file : WRONG_FILES) {
            checks.fails("strip file", ARGUMENT, () -> tree.strip(file, 0, 1, 1));
        }
        for (int first : WRONG_BLOCKS) {
            checks.fails("strip first", ARGUMENT, () -> tree.strip(0, first, 1, 1));
        }
        for (int odd : new int[] {Integer.MIN_VALUE, -1, 0, 2001, Integer.MAX_VALUE}) {
            checks.fails("strip step", ARGUMENT, () -> tree.strip(0, 0, odd, 1));
            checks.fails("strip many", ARGUMENT, () -> tree.strip(0, 0, 1, odd));
        }
        checks.fails("strip past the end", ARGUMENT, () -> tree.strip(0, 65534, 2, 2));
    }

    private void stripStops() {
        ExtentTree tree = new ExtentTree(5);
        tree.put(0, 0, 1000, 1, true);
        tree.spread(1, 0, 2, 2000, 1);
        int free = tree.free();
        checks.is("one file has most blocks", free >= 1 && free < 6, true);
        int out = tree.strip(0, 1, 2, 400);
        checks.is("until blocks are wanting", out < 400, true);
        checks.is("a run more for each", tree.count(0, 0), out + 1);
        checks.is("fewer free than depth and 1", tree.free() < tree.count(0, 1) + 1, true);
        checks.is("the next one is there", tree.look(0, 1 + 2 * out), 2 + 2 * out);
        checks.is("at once", tree.strip(0, 1 + 2 * out, 1, 9), 0);
    }

    private void write() {
        ExtentTree tree = new ExtentTree(84);
        tree.put(0, 100, 100, 1000, false);
        checks.is("the middle", tree.write(0, 140, 10), 3);
        runs("three", tree, 100, 40, 140, 10, 150, 50);
        checks.is("written", tree.count(0, 4), 10);
        checks.is("in runs", tree.count(0, 3), 100);
        checks.is("before", tree.written(0, 139), false);
        checks.is("first", tree.written(0, 140), true);
        checks.is("last", tree.written(0, 149), true);
        checks.is("behind", tree.written(0, 150), false);
        for (int block = 100; block < 200; block++) {
            checks.is("same volume block", tree.look(0, block), block + 900);
        }
        checks.is("joined before", tree.write(0, 150, 5), 3);
        checks.is("joined behind", tree.write(0, 135, 5), 3);
        runs("joined", tree, 100, 35, 135, 20, 155, 45);
        checks.is("the rest behind", tree.write(0, 155, 45), 2);
        checks.is("all", tree.write(0, 100, 35), 1);
        runs("one", tree, 100, 100);
        tree.put(1, 65535, 1, LAST_VOLUME, false);
        checks.is("the last block", tree.write(1, 65535, 1), 1);
        tree.put(2, 0, 32767, 1, false);
        checks.is("the longest", tree.write(2, 0, 32767), 1);
        checks.is("all written", tree.count(2, 4), 32767);
    }

    private void writeMovesAnEntry() {
        ExtentTree tree = new ExtentTree(5);
        for (int i = 1; i <= 6; i++) {
            tree.put(0, 10 * i, 1, 100 * i, false);
        }
        checks.is("first in its leaf", Told.firsts(tree, 2), "40 50 60");
        checks.is("written whole", tree.write(0, 40, 1), 6);
        checks.is("behind the run before", Told.firsts(tree, 1), "10 20 30 40");
        checks.is("gone from its own", Told.firsts(tree, 2), "50 60");
        checks.is("told above", Told.firsts(tree, 0), "10 50");
        checks.is("once more", tree.write(0, 50, 1), 6);
        checks.is("full", Told.firsts(tree, 1), "10 20 30 40 50");
        checks.is("the last of its leaf", tree.write(0, 60, 1), 6);
        // Its own leaf, block 2, is given back first, so the split takes it again.
        checks.is("split", Told.firsts(tree, 1), "10 20 30");
        checks.is("with the same block", Told.firsts(tree, 2), "40 50 60");
        checks.is("free", tree.free(), 253);
        checks.is("the first one", tree.write(0, 10, 1), 6);
        checks.is("stays first", Told.firsts(tree, 1), "10 20 30");
    }

    private void writeSettlesAtItsEnd() {
        // Block 2 has five. One of them goes and comes again: were the root to have the four in
        // between, the least free block, 1, would be taken.
        ExtentTree tree = new ExtentTree(5);
        tree.spread(1, 0, 2, 5, 1);
        for (int i = 1; i <= 5; i++) {
            tree.put(0, 10 * i, 1, 100 * i, false);
        }
        tree.punch(1, 0, 65536);
        checks.is("block 2", Told.below(tree, 0), "2");
        tree.write(0, 30, 1);
        checks.is("still block 2", Told.below(tree, 0), "2");
        checks.is("five", Told.firsts(tree, 2), "10 20 30 40 50");
        tree = new ExtentTree(5);
        tree.spread(0, 10, 10, 3, 100);
        tree.put(0, 31, 1, 105, false);
        tree.put(0, 40, 1, 200, true);
        checks.is("five in a block", Told.firsts(tree, 1), "10 20 30 31 40");
        checks.is("joined", tree.write(0, 31, 1), 4);
        checks.is("the root has the four", Told.firsts(tree, 0), "10 20 30 40");
        checks.is("no block", tree.free(), 255);
    }

    private void writeRefuses() {
        ExtentTree tree = new ExtentTree(5);
        tree.put(0, 10, 10, 100, false);
        tree.put(0, 20, 10, 200, false);
        tree.put(0, 40, 10, 300, true);
        for (int file : WRONG_FILES) {
            checks.fails("write file", ARGUMENT, () -> tree.write(file, 10, 1));
        }
        for (int first : WRONG_BLOCKS) {
            checks.fails("write first", ARGUMENT, () -> tree.write(0, first, 1));
        }
        for (int length : new int[] {Integer.MIN_VALUE, -1, 0, 65537, Integer.MAX_VALUE}) {
            checks.fails("write length", ARGUMENT, () -> tree.write(0, 10, length));
        }
        checks.fails("of two runs", STATE, () -> tree.write(0, 15, 10));
        checks.fails("before a run", STATE, () -> tree.write(0, 9, 2));
        checks.fails("past a run", STATE, () -> tree.write(0, 25, 6));
        checks.fails("of none", STATE, () -> tree.write(0, 0, 1));
        checks.fails("written already", STATE, () -> tree.write(0, 40, 1));
        checks.fails("to the end", STATE, () -> tree.write(0, 10, 65526));
        runs("as before", tree, 10, 10, 20, 10, 40, 10);
        tree.spread(1, 0, 2, 2000, 1);
        tree.spread(2, 0, 2, 2000, 1);
        int free = tree.free();
        checks.is("two are too few", free < 3, true);
        checks.fails("no blocks", UNSUPPORTED, () -> tree.write(0, 10, 10));
        checks.fails("state first", STATE, () -> tree.write(0, 40, 1));
        checks.is("put() needs only one", free >= 1, true);
        checks.is("and has it", tree.put(0, 0, 1, 1, true), 4);
        writeRefusesDepthFour();
    }

    private void writeRefusesDepthFour() {
        ExtentTree tree = new ExtentTree(5);
        int first = 65000;
        while (first > 0 && !(tree.count(0, 1) == 4 && tree.rootByte(0, 2) == 4)) {
            tree.put(0, first, 1, 7, false);
            first -= 3;
        }
        checks.is("enough blocks are free", tree.free() >= 11, true);
        checks.fails("depth 4, four in the root", UNSUPPORTED, () -> tree.write(0, 65000, 1));
        checks.is("put() may", tree.put(0, first, 1, 7, false) > 0, true);
        checks.is("punch() may", tree.punch(0, first, 1), 1);
    }

    private void look() {
        ExtentTree tree = new ExtentTree(5);
        tree.put(3, 10, 5, 100, true);
        tree.put(3, 15, 5, 300, false);
        int[] blocks = {0, 9, 10, 14, 15, 19, 20, 65535};
        int[] due = {-1, -1, 100, 104, 300, 304, -1, -1};
        for (int i = 0; i < blocks.length; i++) {
            checks.is("look " + blocks[i], tree.look(3, blocks[i]), due[i]);
            checks.is("look in another file", tree.look(2, blocks[i]), -1);
        }
        for (int file : WRONG_FILES) {
            checks.fails("look file", ARGUMENT, () -> tree.look(file, 0));
        }
        for (int block : WRONG_BLOCKS) {
            checks.fails("look block", ARGUMENT, () -> tree.look(0, block));
        }
    }

    private void written() {
        ExtentTree tree = new ExtentTree(5);
        tree.put(3, 10, 5, 100, true);
        tree.put(3, 15, 5, 300, false);
        int[] blocks = {0, 9, 10, 14, 15, 19, 20, 65535};
        for (int block : blocks) {
            checks.is("written " + block, tree.written(3, block), block >= 10 && block < 15);
        }
        tree.put(0, 0, 32768, 1, true);
        checks.is("longest", tree.written(0, 32767), true);
        checks.is("behind a written run", tree.written(0, 32768), false);
        for (int file : WRONG_FILES) {
            checks.fails("written file", ARGUMENT, () -> tree.written(file, 0));
        }
        for (int block : WRONG_BLOCKS) {
            checks.fails("written block", ARGUMENT, () -> tree.written(0, block));
        }
    }

    private void reach() {
        ExtentTree tree = Shapes.tens(5, 40);
        checks.is("deep enough", tree.count(0, 1) >= 2, true);
        for (int block = 0; block < 400; block++) {
            int due = block % 10 == 0 && block > 0 ? 1 : 10 - block % 10;
            checks.is("reach " + block, tree.reach(0, block), due);
        }
        checks.is("to the end", tree.reach(0, 401), 65536 - 401);
        checks.is("last block", tree.reach(0, 65535), 1);
        tree.put(1, 5, 5, 100, true);
        tree.put(1, 10, 5, 300, true);
        checks.is("the same run only", tree.reach(1, 6), 4);
        checks.is("the next one", tree.reach(1, 10), 5);
        for (int file : WRONG_FILES) {
            checks.fails("reach file", ARGUMENT, () -> tree.reach(file, 0));
        }
        for (int block : WRONG_BLOCKS) {
            checks.fails("reach block", ARGUMENT, () -> tree.reach(0, block));
        }
    }

    private void count() {
        ExtentTree tree = Shapes.tens(5, 15);
        tree.put(0, 1000, 7, 5000, false);
        int[] due = {16, 2, 6, 22, 15, 5};
        for (int what = 0; what < due.length; what++) {
            checks.is("count " + what, tree.count(0, what), due[what]);
        }
        checks.is("a root is a leaf", tree.count(1, 5), 1);
        tree.put(1, 0, 3, 1, true);
        checks.is("still", tree.count(1, 5), 1);
        tree.punch(0, 0, 65536);
        checks.is("again", tree.count(0, 5), 1);
        for (int file : WRONG_FILES) {
            checks.fails("count file", ARGUMENT, () -> tree.count(file, 0));
        }
        for (int what : new int[] {Integer.MIN_VALUE, -1, 6, Integer.MAX_VALUE}) {
            checks.fails("count what", ARGUMENT, () -> tree.count(0, what));
        }
    }

    private void free() {
        ExtentTree tree = Shapes.tens(5, 4);
        checks.is("none taken", tree.free(), 255);
        tree.put(0, 50, 1, 7, true);
        checks.is("one", tree.free(), 254);
        tree.spread(1, 0, 2, 15, 1);
        checks.is("six more", tree.free(), 248);
        tree.punch(1, 0, 65536);
        checks.is("given back", tree.free(), 254);
        tree.punch(0, 50, 1);
        checks.is("all given back", tree.free(), 255);
    }

    private void rootByte() {
        ExtentTree tree = new ExtentTree(5);
        tree.put(2, 0x1234, 0x0203, 0x876543, true);
        tree.put(2, 0xFEDC, 0x0102, 0x1000000 - 0x0101, false);
        int[] due = {0x0A, 0xF3, 2, 0, 4, 0, 0, 0, 0, 0, 0, 0,
            0x34, 0x12, 0, 0, 0x03, 0x02, 0, 0, 0x43, 0x65, 0x87, 0,
            0xDC, 0xFE, 0, 0, 0x02, 0x81, 0, 0, 0xFF, 0xFE, 0xFF, 0};
        for (int i = 0; i < 60; i++) {
            checks.is("root byte " + i, tree.rootByte(2, i), i < due.length ? due[i] : 0);
        }
        tree.punch(2, 0x1234, 0x0203);
        for (int i = 24; i < 60; i++) {
            checks.is("0 behind the entries " + i, tree.rootByte(2, i), 0);
        }
        tree.put(3, 0, 32768, LAST_VOLUME - 32767, true);
        checks.is("longest, low", tree.rootByte(3, 16), 0);
        checks.is("longest, high", tree.rootByte(3, 17), 128);
        tree.put(0, 0, 32767, 1, false);
        checks.is("longest unwritten, low", tree.rootByte(0, 16), 255);
        checks.is("longest unwritten, high", tree.rootByte(0, 17), 255);
        tree.put(1, 0, 1, LAST_VOLUME, false);
        checks.is("last volume block", tree.rootByte(1, 23), 1);
        for (int i : new int[] {Integer.MIN_VALUE, -1, 60, Integer.MAX_VALUE}) {
            checks.fails("root byte", INDEX, () -> tree.rootByte(0, i));
        }
        for (int file : WRONG_FILES) {
            checks.fails("root file", ARGUMENT, () -> tree.rootByte(file, 0));
            checks.fails("root file first", ARGUMENT, () -> tree.rootByte(file, 60));
        }
    }

    private void nodeByte() {
        ExtentTree tree = new ExtentTree(84);
        tree.put(0, 0x1234, 0x0203, 0x876543, true);
        tree.put(0, 0xFEDC, 0x0102, 0x1000000 - 0x0101, false);
        tree.spread(0, 0, 1, 3, 1);
        int[] due = {0x0A, 0xF3, 5, 0, 84, 0, 0, 0, 0, 0, 0, 0,
            0, 0, 0, 0, 1, 0, 0, 0, 1, 0, 0, 0,
            1, 0, 0, 0, 1, 0, 0, 0, 3, 0, 0, 0,
            2, 0, 0, 0, 1, 0, 0, 0, 5, 0, 0, 0,
            0x34, 0x12, 0, 0, 0x03, 0x02, 0, 0, 0x43, 0x65, 0x87, 0,
            0xDC, 0xFE, 0, 0, 0x02, 0x81, 0, 0, 0xFF, 0xFE, 0xFF, 0};
        for (int i = 0; i < 1024; i++) {
            checks.is("byte " + i, tree.nodeByte(1, i), i < due.length ? due[i] : 0);
        }
        int[] rootDue = {0x0A, 0xF3, 1, 0, 4, 0, 1, 0, 0, 0, 0, 0, 0, 0, 0, 0, 1, 0};
        for (int i = 0; i < 60; i++) {
            checks.is("root " + i, tree.rootByte(0, i), i < rootDue.length ? rootDue[i] : 0);
        }
        for (int i : new int[] {Integer.MIN_VALUE, -1, 1024, Integer.MAX_VALUE}) {
            checks.fails("byte", INDEX, () -> tree.nodeByte(1, i));
        }
        for (int block : new int[] {Integer.MIN_VALUE, -1, 0, 2, 255, 256, Integer.MAX_VALUE}) {
            checks.fails("block", INDEX, () -> tree.nodeByte(block, 0));
        }
        tree.spread(0, 100, 2, 80, 1);
        int entries = tree.nodeByte(1, 2);
        checks.is("split", tree.nodeByte(2, 2) + entries, 85);
        for (int i = 12 + 12 * entries; i < 1024; i++) {
            checks.is("0 behind what was handed over", tree.nodeByte(1, i), 0);
        }
        tree.punch(0, 0, 65536);
        checks.fails("given back", INDEX, () -> tree.nodeByte(1, 0));
        tree.spread(1, 7, 1, 5, 1);
        checks.is("taken again", tree.nodeByte(1, 12), 7);
        checks.is("with its own entries only", tree.nodeByte(1, 12 + 12 * 5 + 4), 0);
    }

    private void afterAThrow() {
        ExtentTree tree = Shapes.tens(5, 15);
        byte[] before = Told.everything(tree);
        checks.fails("put", STATE, () -> tree.put(0, 5, 6, 1, true));
        checks.fails("put", ARGUMENT, () -> tree.put(0, 65535, 2, 1, true));
        checks.fails("write", STATE, () -> tree.write(0, 10, 1));
        checks.fails("punch", ARGUMENT, () -> tree.punch(0, 10, 65536));
        checks.fails("spread", ARGUMENT, () -> tree.spread(0, 1, 2000, 40, 1));
        checks.fails("strip", ARGUMENT, () -> tree.strip(0, 10, 2000, 40));
        checks.is("nothing is changed", Arrays.equals(Told.everything(tree), before), true);
    }
}
