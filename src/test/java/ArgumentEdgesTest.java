/**
 * The least and the greatest arguments of every call, one beyond each, and far beyond, where a
 * sum wraps around. Above each test stands the sentence of the document that it is for.
 */
public final class ArgumentEdgesTest {
    private static final Class<?> ARGUMENT = IllegalArgumentException.class;
    private static final Class<?> STATE = IllegalStateException.class;
    private static final Class<?> UNSUPPORTED = UnsupportedOperationException.class;
    private static final Class<?> INDEX = IndexOutOfBoundsException.class;
    private static final int LAST_VOLUME = 1 << 24;
    private static final int LEAST = Integer.MIN_VALUE;
    private static final int MOST = Integer.MAX_VALUE;

    private interface Call {
        int on(ExtentTree tree, int x);
    }

    private final Checks checks = new Checks();

    public static void main(String[] args) {
        ArgumentEdgesTest test = new ArgumentEdgesTest();
        test.entriesOfABlock();
        test.files();
        test.firstFileBlock();
        test.lastFileBlockOfPut();
        test.lastFileBlockOfPunch();
        test.lastFileBlockOfWrite();
        test.lastFileBlockOfSpread();
        test.lastFileBlockOfStrip();
        test.lengthOfAWrittenRun();
        test.lengthOfAnUnwrittenRun();
        test.lengthOfPunch();
        test.lengthOfWrite();
        test.volumeBlocksOfPut();
        test.volumeBlocksOfSpread();
        test.stepOfSpread();
        test.manyOfSpread();
        test.stepOfStrip();
        test.manyOfStrip();
        test.numberOfCount();
        test.byteOfARoot();
        test.byteOfABlock();
        test.blockOfNodeByte();
        test.firstOfPutsHeading();
        test.firstOfPunchsHeading();
        test.firstOfWritesHeading();
        test.firstOfRootBytesHeading();
        test.lastOfTheCalls();
        test.checks.end("ArgumentEdgesTest");
    }

    /** The call answers this for the good ones, and refuses the wrong ones, on new objects. */
    private void edge(String name, int[] good, int due, int[] wrong, Call call) {
        for (int x : good) {
            checks.is(name + " " + x, call.on(ready(), x), due);
        }
        for (int x : wrong) {
            ExtentTree tree = ready();
            checks.refuses(name + " " + x, ARGUMENT, tree, () -> call.on(tree, x));
        }
    }

    /** Each file has three runs, none written: the first block, 10 .. 19, and the last block. */
    private static ExtentTree ready() {
        ExtentTree tree = new ExtentTree(84);
        for (int file = 0; file < 4; file++) {
            tree.put(file, 0, 1, 501, false);
            tree.put(file, 10, 10, 601, false);
            tree.put(file, 65535, 1, 701, false);
        }
        return tree;
    }

    private static int[] ints(int... all) {
        return all;
    }

    /** "Blocks may have m entries (5, if that is less, 84, if it is more)." */
    private void entriesOfABlock() {
        int[] asked = {LEAST, -1, 0, 1, 4, 5, 6, 83, 84, 85, MOST};
        int[] due = {5, 5, 5, 5, 5, 5, 6, 83, 84, 84, 84};
        for (int i = 0; i < asked.length; i++) {
            ExtentTree tree = Shapes.tens(asked[i], due[i]);
            checks.is("m " + asked[i] + ": as many in one block", tree.count(0, 5), 1);
            checks.is("m " + asked[i] + ": as it tells", Told.number(tree, 1, 4, 2), due[i]);
            checks.is("m " + asked[i] + ": all of them", Told.entries(tree, 1), due[i]);
            tree.put(0, 60000, 1, 7, true);
            checks.is("m " + asked[i] + ": one more is in two", tree.count(0, 5), 2);
        }
    }

    /** "FILES are 0 .. 3." "There is no such file." */
    private void files() {
        int[] good = {0, 1, 2, 3};
        int[] wrong = {LEAST, -1, 4, MOST};
        edge("put file", good, 4, wrong, (tree, x) -> tree.put(x, 50, 1, 7, true));
        edge("spread file", good, 2, wrong, (tree, x) -> tree.spread(x, 50, 2, 2, 7));
        edge("punch file", good, 3, wrong, (tree, x) -> tree.punch(x, 12, 3));
        edge("strip file", good, 2, wrong, (tree, x) -> tree.strip(x, 12, 2, 2));
        edge("write file", good, 5, wrong, (tree, x) -> tree.write(x, 12, 3));
        edge("look file", good, 602, wrong, (tree, x) -> tree.look(x, 11));
        edge("written file", good, 0, wrong, (tree, x) -> tree.written(x, 11) ? 1 : 0);
        edge("reach file", good, 9, wrong, (tree, x) -> tree.reach(x, 11));
        edge("count file", good, 12, wrong, (tree, x) -> tree.count(x, 3));
        edge("rootByte file", good, 10, wrong, (tree, x) -> tree.rootByte(x, 24));
        ExtentTree tree = ready();
        tree.put(3, 50, 1, 7, true);
        tree.punch(0, 0, 1);
        checks.is("only file 3 has it", tree.look(3, 50), 7);
        checks.is("only file 0 is without", tree.look(0, 0), -1);
        for (int file = 1; file < 3; file++) {
            checks.is("file " + file + " is as it was", Told.runs(tree, file),
                    "0:1@501- 10:10@601- 65535:1@701-");
        }
    }

    /** "FILE BLOCKS are 0 .. 65535." "First, block is not 0 .. 65535." */
    private void firstFileBlock() {
        int[] good = {0, 65535};
        int[] wrong = {LEAST, LEAST + 1, -65536, -1, 65536, MOST - 1, MOST};
        for (int first : good) {
            checks.is("put first", new ExtentTree(5).put(0, first, 1, 7, true), 1);
            checks.is("spread first", new ExtentTree(5).spread(0, first, 1, 1, 7), 1);
        }
        edge("put first", ints(), 0, wrong, (tree, x) -> tree.put(0, x, 1, 7, true));
        edge("spread first", ints(), 0, wrong, (tree, x) -> tree.spread(0, x, 1, 1, 7));
        edge("punch first", good, 1, wrong, (tree, x) -> tree.punch(0, x, 1));
        edge("strip first", good, 1, wrong, (tree, x) -> tree.strip(0, x, 1, 1));
        edge("write first", good, 3, wrong, (tree, x) -> tree.write(0, x, 1));
        edge("look block 0", ints(0), 501, wrong, (tree, x) -> tree.look(0, x));
        edge("look block 65535", ints(65535), 701, wrong, (tree, x) -> tree.look(0, x));
        edge("written block", good, 0, wrong, (tree, x) -> tree.written(0, x) ? 1 : 0);
        edge("reach block", good, 1, wrong, (tree, x) -> tree.reach(0, x));
    }

    /** "One of the file blocks is not there", of put. */
    private void lastFileBlockOfPut() {
        int[] firsts = {65535, 65534, 65530, 32768};
        for (int first : firsts) {
            int longest = 65536 - first;
            ExtentTree tree = new ExtentTree(5);
            checks.refuses("put past the end", ARGUMENT, tree,
                    () -> tree.put(0, first, longest + 1, 7, true));
            checks.is("put to the end", tree.put(0, first, longest, 7, true), 1);
            checks.is("the last one", tree.look(0, 65535), 7 + longest - 1);
        }
        ExtentTree tree = new ExtentTree(5);
        checks.refuses("put the longest too late", ARGUMENT, tree,
                () -> tree.put(0, 32769, 32768, 7, true));
        checks.refuses("put, unwritten, too late", ARGUMENT, tree,
                () -> tree.put(0, 32770, 32767, 7, false));
        checks.is("put, unwritten", tree.put(0, 32769, 32767, 7, false), 1);
        checks.refuses("put, wrapping around", ARGUMENT, tree,
                () -> tree.put(0, 65535, MOST, 7, true));
    }

    /** "One of the file blocks is not there", of punch. */
    private void lastFileBlockOfPunch() {
        for (int first : new int[] {0, 1, 32768, 65534, 65535}) {
            int longest = 65536 - first;
            ExtentTree tree = ready();
            checks.refuses("punch past the end", ARGUMENT, tree,
                    () -> tree.punch(0, first, longest + 1));
            checks.refuses("punch, wrapping around", ARGUMENT, tree,
                    () -> tree.punch(0, first, MOST));
            int due = first == 0 ? 12 : first == 1 ? 11 : 1;
            checks.is("punch to the end", tree.punch(0, first, longest), due);
        }
    }

    /** "One of the file blocks is not there", of write. */
    private void lastFileBlockOfWrite() {
        for (int first : new int[] {65500, 65534, 65535}) {
            int longest = 65536 - first;
            ExtentTree tree = new ExtentTree(5);
            tree.put(0, first, longest, 7, false);
            checks.refuses("write past the end", ARGUMENT, tree,
                    () -> tree.write(0, first, longest + 1));
            checks.refuses("write, wrapping around", ARGUMENT, tree,
                    () -> tree.write(0, first, MOST));
            checks.is("write to the end", tree.write(0, first, longest), 1);
            checks.is("all of it", tree.count(0, 4), longest);
        }
    }

    /** Of spread: "or one of them would not be there", of the file blocks. */
    private void lastFileBlockOfSpread() {
        int[] steps = {1, 1, 2, 32, 2000, 2000, 2000};
        int[] manies = {2, 2000, 2, 2000, 2, 33, 1};
        for (int i = 0; i < steps.length; i++) {
            int step = steps[i];
            int many = manies[i];
            int first = 65535 - (many - 1) * step;
            ExtentTree tree = new ExtentTree(84);
            checks.refuses("spread past the end", ARGUMENT, tree,
                    () -> tree.spread(0, first + 1, step, many, 7));
            checks.is("spread to the end", tree.spread(0, first, step, many, 7), many);
            checks.is("the last one", tree.look(0, 65535), 7 + 2 * (many - 1));
        }
        ExtentTree tree = new ExtentTree(84);
        tree.put(0, 0, 1, 7, true);
        checks.refuses("though it would stop at once", ARGUMENT, tree,
                () -> tree.spread(0, 0, 2000, 34, 7));
        checks.refuses("the most of the longest steps", ARGUMENT, tree,
                () -> tree.spread(0, 1, 2000, 2000, 7));
        checks.refuses("from the greatest on", ARGUMENT, tree,
                () -> tree.spread(0, MOST, 2000, 2000, 7));
    }

    /** Of strip: "or one of them would not be there". */
    private void lastFileBlockOfStrip() {
        int[] steps = {1, 1, 2, 32, 2000, 2000, 2000};
        int[] manies = {2, 2000, 2, 2000, 2, 33, 1};
        for (int i = 0; i < steps.length; i++) {
            int step = steps[i];
            int many = manies[i];
            int first = 65535 - (many - 1) * step;
            ExtentTree tree = new ExtentTree(84);
            tree.put(0, 0, 32768, 7, true);
            tree.put(0, 32768, 32768, 7, true);
            checks.refuses("strip past the end", ARGUMENT, tree,
                    () -> tree.strip(0, first + 1, step, many));
            checks.is("strip to the end", tree.strip(0, first, step, many), many);
            checks.is("the last one", tree.look(0, 65535), -1);
        }
        ExtentTree tree = ready();
        checks.refuses("the most of the longest steps", ARGUMENT, tree,
                () -> tree.strip(0, 0, 2000, 2000));
        checks.refuses("from the greatest on", ARGUMENT, tree,
                () -> tree.strip(0, MOST, 2000, 2000));
    }

    /** "A RUN .. is WRITTEN (length 1 .. 32768)." "Length is not 1 or more, or is too long." */
    private void lengthOfAWrittenRun() {
        for (int length : new int[] {1, 2, 32767, 32768}) {
            ExtentTree tree = new ExtentTree(5);
            checks.is("put written " + length, tree.put(0, 9, length, 7, true), 1);
            checks.is("reach " + length, tree.reach(0, 9), length);
            checks.is("all written " + length, tree.count(0, 4), length);
        }
        for (int length : new int[] {LEAST, -1, 0, 32769, 65527, 65528, MOST}) {
            ExtentTree tree = new ExtentTree(5);
            checks.refuses("put written " + length, ARGUMENT, tree,
                    () -> tree.put(0, 9, length, 7, true));
        }
    }

    /** ".. or not yet (1 .. 32767)." "Length is not 1 or more, or is too long for a run." */
    private void lengthOfAnUnwrittenRun() {
        for (int length : new int[] {1, 2, 32766, 32767}) {
            ExtentTree tree = new ExtentTree(5);
            checks.is("put unwritten " + length, tree.put(0, 9, length, 7, false), 1);
            checks.is("reach " + length, tree.reach(0, 9), length);
            checks.is("in runs " + length, tree.count(0, 3), length);
            checks.is("none written " + length, tree.count(0, 4), 0);
        }
        for (int length : new int[] {LEAST, -1, 0, 32768, 32769, 65527, MOST}) {
            ExtentTree tree = new ExtentTree(5);
            checks.refuses("put unwritten " + length, ARGUMENT, tree,
                    () -> tree.put(0, 9, length, 7, false));
        }
    }

    /** "Length is not 1 or more", of punch, for which a run's longest is no bound. */
    private void lengthOfPunch() {
        edge("punch one", ints(1, 2, 9), 1, ints(LEAST, -1, 0, 65537, MOST),
                (tree, x) -> tree.punch(0, 0, x));
        edge("punch many", ints(20, 32767, 32768, 32769, 65535), 11, ints(65537, 65538),
                (tree, x) -> tree.punch(0, 0, x));
        checks.is("punch all", ready().punch(0, 0, 65536), 12);
    }

    /** "Length is not 1 or more", of write: beyond a run's longest it is a matter of the state. */
    private void lengthOfWrite() {
        edge("write length", ints(1, 9), 4, ints(LEAST, -1, 0, 65527, MOST),
                (tree, x) -> tree.write(0, 10, x));
        for (int length : new int[] {32768, 32769, 65536}) {
            ExtentTree tree = new ExtentTree(5);
            tree.put(0, 0, 32767, 1, false);
            tree.put(0, 32767, 32767, 32768, false);
            checks.refuses("write " + length, STATE, tree, () -> tree.write(0, 0, length));
            checks.is("write 32767", tree.write(0, 0, 32767), 2);
        }
    }

    /** "VOLUME BLOCKS 1 .. 2^24." "Or (of put, spread) one of the volume blocks." */
    private void volumeBlocksOfPut() {
        for (int length : new int[] {1, 2, 32767, 32768}) {
            int last = LAST_VOLUME - length + 1;
            for (int volume : new int[] {1, last}) {
                ExtentTree tree = new ExtentTree(5);
                checks.is("put at " + volume, tree.put(0, 3, length, volume, true), 1);
                checks.is("first of " + volume, tree.look(0, 3), volume);
                checks.is("last of " + volume, tree.look(0, 2 + length), volume + length - 1);
            }
            for (int volume : new int[] {LEAST, -length, -1, 0, last + 1, MOST - length, MOST}) {
                ExtentTree tree = new ExtentTree(5);
                checks.refuses("put at " + volume, ARGUMENT, tree,
                        () -> tree.put(0, 3, length, volume, true));
            }
        }
    }

    /** Of spread: "or one of them would not be there", of the volume blocks. */
    private void volumeBlocksOfSpread() {
        for (int many : new int[] {1, 2, 2000}) {
            int last = LAST_VOLUME - 2 * (many - 1);
            for (int volume : new int[] {1, last}) {
                ExtentTree tree = new ExtentTree(84);
                checks.is("spread at " + volume, tree.spread(0, 0, 3, many, volume), many);
                checks.is("first of " + volume, tree.look(0, 0), volume);
                checks.is("last of " + volume, tree.look(0, 3 * (many - 1)),
                        volume + 2 * (many - 1));
            }
            for (int volume : new int[] {LEAST, -1, 0, last + 1, last + 2, MOST - 1, MOST}) {
                ExtentTree tree = new ExtentTree(84);
                checks.refuses("spread at " + volume, ARGUMENT, tree,
                        () -> tree.spread(0, 0, 3, many, volume));
            }
        }
        ExtentTree tree = new ExtentTree(84);
        tree.put(0, 0, 1, 7, true);
        checks.refuses("though it would stop at once", ARGUMENT, tree,
                () -> tree.spread(0, 0, 1, 2, LAST_VOLUME - 1));
    }

    /** Of spread: "step or many is not 1 .. 2000", of step. */
    private void stepOfSpread() {
        edge("spread step", ints(1, 2, 1999, 2000), 2, ints(LEAST, -1, 0, 2001, MOST),
                (tree, x) -> tree.spread(0, 20, x, 2, 7));
        edge("spread step of one", ints(1, 2000), 1, ints(LEAST, -1, 0, 2001, MOST),
                (tree, x) -> tree.spread(0, 20, x, 1, 7));
        ExtentTree tree = new ExtentTree(5);
        tree.spread(0, 5, 2000, 2, 7);
        checks.is("2000 on", Told.runs(tree, 0), "5:1@7+ 2005:1@9+");
        tree.spread(1, 5, 1, 2, 7);
        checks.is("1 on", Told.runs(tree, 1), "5:1@7+ 6:1@9+");
    }

    /** Of spread: "step or many is not 1 .. 2000", of many. */
    private void manyOfSpread() {
        edge("spread one", ints(1), 1, ints(LEAST, -1, 0, 2001, MOST),
                (tree, x) -> tree.spread(0, 20, 3, x, 7));
        edge("spread 2000", ints(2000), 2000, ints(LEAST, -1, 0, 2001, MOST),
                (tree, x) -> tree.spread(0, 20, 1, x, 7));
        ExtentTree tree = new ExtentTree(84);
        tree.spread(0, 0, 1, 2000, 7);
        checks.is("just so many", tree.count(0, 0), 2000);
    }

    /** Of strip: "step or many is not 1 .. 2000", of step. */
    private void stepOfStrip() {
        edge("strip step", ints(1, 3, 9), 2, ints(LEAST, -1, 0, 2001, MOST),
                (tree, x) -> tree.strip(0, 10, x, 2));
        edge("strip step of one", ints(1, 2000), 1, ints(LEAST, -1, 0, 2001, MOST),
                (tree, x) -> tree.strip(0, 10, x, 1));
        ExtentTree tree = new ExtentTree(5);
        tree.put(0, 5, 2001, 7, true);
        checks.is("strip by 2000", tree.strip(0, 5, 2000, 2), 2);
        checks.is("2000 on", Told.runs(tree, 0), "6:1999@8+");
    }

    /** Of strip: "step or many is not 1 .. 2000", of many. */
    private void manyOfStrip() {
        edge("strip one", ints(1), 1, ints(LEAST, -1, 0, 2001, MOST),
                (tree, x) -> tree.strip(0, 10, 3, x));
        ExtentTree tree = new ExtentTree(5);
        tree.put(0, 5, 2001, 7, true);
        checks.refuses("strip 2001", ARGUMENT, tree, () -> tree.strip(0, 5, 1, 2001));
        checks.is("strip 2000", tree.strip(0, 5, 1, 2000), 2000);
        checks.is("one is left", Told.runs(tree, 0), "2005:1@2007+");
    }

    /** Of count: "there is no such number", with 0 .. 5 told. */
    private void numberOfCount() {
        int[] due = {3, 0, 0, 12, 0, 1};
        for (int what = 0; what < due.length; what++) {
            edge("count what", ints(what), due[what], ints(LEAST, -1, 6, MOST),
                    (tree, x) -> tree.count(0, x));
        }
    }

    /** "Each file has a ROOT of 60 bytes." "IndexOutOfBoundsException: i is not 0 .. 59." */
    private void byteOfARoot() {
        for (int file = 0; file < 4; file++) {
            ExtentTree tree = ready();
            int at = file;
            tree.put(file, 30, 1, LAST_VOLUME, true);
            checks.is("byte 0", tree.rootByte(file, 0), 62218 & 255);
            checks.is("byte 58", tree.rootByte(file, 58), 0);
            tree.punch(file, 65535, 1);
            tree.put(file, 65535, 1, LAST_VOLUME, true);
            checks.is("byte 59", tree.rootByte(file, 59), 1);
            for (int i : new int[] {LEAST, -60, -1, 60, 61, 1023, MOST}) {
                checks.refuses("byte " + i, INDEX, tree, () -> tree.rootByte(at, i));
            }
        }
    }

    /** "Blocks of 1,024 bytes each." "IndexOutOfBoundsException: i is not 0 .. 1023." */
    private void byteOfABlock() {
        ExtentTree tree = Shapes.tens(84, 84);
        checks.is("byte 0", tree.nodeByte(1, 0), 62218 & 255);
        checks.is("byte 1016", tree.nodeByte(1, 1016), (101 + 2 * 83) & 255);
        checks.is("byte 1023", tree.nodeByte(1, 1023), 0);
        for (int i : new int[] {LEAST, -1024, -1, 1024, 1025, 65536, MOST}) {
            checks.refuses("byte " + i, INDEX, tree, () -> tree.nodeByte(1, i));
        }
    }

    /** "THE POOL are blocks 1 .. 255 .. free at first." "IndexOutOfBoundsException: not taken." */
    private void blockOfNodeByte() {
        ExtentTree fresh = new ExtentTree(5);
        for (int block = -1; block <= 257; block++) {
            int number = block;
            checks.fails("free at first " + block, INDEX, () -> fresh.nodeByte(number, 0));
        }
        ExtentTree tree = Shapes.tens(5, 1);
        checks.is("one block is left", Shapes.leaveFree(tree, 1), true);
        checks.refuses("block 255 is not taken", INDEX, tree, () -> tree.nodeByte(255, 0));
        checks.is("block 254 is", tree.nodeByte(254, 0), 62218 & 255);
        tree.spread(0, 20, 10, 4, 7);
        checks.is("no block is left", tree.free(), 0);
        checks.is("block 255 is taken", tree.nodeByte(255, 0), 62218 & 255);
        checks.is("block 1 is", tree.nodeByte(1, 0), 62218 & 255);
        for (int block : new int[] {LEAST, -255, -1, 0, 256, 257, 65536, MOST}) {
            checks.refuses("block " + block, INDEX, tree, () -> tree.nodeByte(block, 0));
            checks.fails("both wrong " + block, INDEX, () -> tree.nodeByte(block, 1024));
        }
        ExtentTree back = Shapes.tens(5, 6);
        checks.is("block 2", back.nodeByte(2, 12), 40);
        back.punch(0, 40, 30);
        checks.refuses("block 2 is given back", INDEX, back, () -> back.nodeByte(2, 12));
        checks.refuses("and block 1 too", INDEX, back, () -> back.nodeByte(1, 12));
    }

    /** No block is free, so that UnsupportedOperationException holds for each put and punch. */
    private static ExtentTree crowded() {
        ExtentTree tree = new ExtentTree(5);
        tree.put(0, 10, 10, 601, false);
        Shapes.leaveFree(tree, 0);
        return tree;
    }

    /** "What is thrown: the first of those listed in the heading that holds", of put. */
    private void firstOfPutsHeading() {
        ExtentTree tree = crowded();
        checks.is("no block is free", tree.free(), 0);
        checks.refuses("all three: file", ARGUMENT, tree, () -> tree.put(4, 10, 1, 7, true));
        checks.refuses("all three: first", ARGUMENT, tree, () -> tree.put(0, -1, 12, 7, true));
        checks.refuses("all three: length", ARGUMENT, tree, () -> tree.put(0, 10, 0, 7, true));
        checks.refuses("all three: too long", ARGUMENT, tree,
                () -> tree.put(0, 10, 32768, 7, false));
        checks.refuses("all three: end", ARGUMENT, tree, () -> tree.put(0, 15, 65530, 7, true));
        checks.refuses("all three: volume", ARGUMENT, tree, () -> tree.put(0, 10, 1, 0, true));
        checks.refuses("all three: volume's end", ARGUMENT, tree,
                () -> tree.put(0, 10, 2, LAST_VOLUME, true));
        checks.refuses("argument and blocks", ARGUMENT, tree, () -> tree.put(0, 5, 1, 0, true));
        checks.refuses("state and blocks", STATE, tree, () -> tree.put(0, 10, 1, 7, true));
        checks.refuses("blocks alone", UNSUPPORTED, tree, () -> tree.put(0, 9, 1, 7, true));
        ExtentTree roomy = ready();
        checks.refuses("argument and state", ARGUMENT, roomy, () -> roomy.put(0, 10, 1, 0, true));
        checks.refuses("state alone", STATE, roomy, () -> roomy.put(0, 10, 1, 7, true));
    }

    /** The same of punch. */
    private void firstOfPunchsHeading() {
        ExtentTree tree = crowded();
        checks.refuses("both: file", ARGUMENT, tree, () -> tree.punch(-1, 10, 1));
        checks.refuses("both: first", ARGUMENT, tree, () -> tree.punch(0, 65536, 1));
        checks.refuses("both: length", ARGUMENT, tree, () -> tree.punch(0, 10, 0));
        checks.refuses("both: end", ARGUMENT, tree, () -> tree.punch(0, 10, 65527));
        checks.refuses("blocks alone", UNSUPPORTED, tree, () -> tree.punch(0, 10, 65526));
    }

    /** The same of write. */
    private void firstOfWritesHeading() {
        ExtentTree tree = crowded();
        checks.refuses("all three: file", ARGUMENT, tree, () -> tree.write(4, 9, 1));
        checks.refuses("all three: first", ARGUMENT, tree, () -> tree.write(0, -1, 1));
        checks.refuses("all three: length", ARGUMENT, tree, () -> tree.write(0, 9, 0));
        checks.refuses("all three: end", ARGUMENT, tree, () -> tree.write(0, 9, 65528));
        checks.refuses("argument and blocks", ARGUMENT, tree, () -> tree.write(0, 10, 0));
        checks.refuses("state and blocks", STATE, tree, () -> tree.write(0, 9, 1));
        checks.refuses("blocks alone", UNSUPPORTED, tree, () -> tree.write(0, 10, 10));
        ExtentTree roomy = ready();
        checks.refuses("argument and state", ARGUMENT, roomy, () -> roomy.write(0, 20, 65517));
        checks.refuses("state alone", STATE, roomy, () -> roomy.write(0, 20, 65516));
    }

    /** The same of rootByte. */
    private void firstOfRootBytesHeading() {
        ExtentTree tree = ready();
        for (int file : new int[] {LEAST, -1, 4, MOST}) {
            checks.refuses("both", ARGUMENT, tree, () -> tree.rootByte(file, 60));
            checks.refuses("both, below", ARGUMENT, tree, () -> tree.rootByte(file, -1));
            checks.refuses("file alone", ARGUMENT, tree, () -> tree.rootByte(file, 59));
        }
        checks.refuses("byte alone", INDEX, tree, () -> tree.rootByte(3, 60));
    }

    /** "An object is used for at most 512 calls after it has been made." */
    private void lastOfTheCalls() {
        ExtentTree tree = new ExtentTree(84);
        for (int call = 1; call <= 512; call++) {
            checks.is("call " + call, tree.put(call % 4, 9 * call, 5, 7, call % 3 == 0),
                    (call + 3) / 4);
        }
    }
}
