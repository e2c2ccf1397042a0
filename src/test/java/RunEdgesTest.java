import java.util.Arrays;

/**
 * Runs that are put in, joined, taken out and written, at the edges of each other. Above each test
 * stands the sentence of the document that it is for.
 */
public final class RunEdgesTest {
    private static final Class<?> STATE = IllegalStateException.class;
    private static final int LAST_VOLUME = 1 << 24;

    private final Checks checks = new Checks();

    public static void main(String[] args) {
        RunEdgesTest test = new RunEdgesTest();
        test.noBlockInCommon();
        test.rightBefore();
        test.writtenOrNotAsTheOneBefore();
        test.tooLongWithTheOneBefore();
        test.rightBehind();
        test.writtenOrNotAsTheOneBehind();
        test.tooLongWithTheOneBehind();
        test.threeBecomeOne();
        test.tooLongWithTheOneBehindToo();
        test.tooLongBeforeButNotBehind();
        test.theOneBehindGoes();
        test.theOneBehindBeginsEarlier();
        test.behindTheRunBefore();
        test.withoutARunBefore();
        test.takenOutOfOneRun();
        test.takenOutOfOneBlock();
        test.takenOutOfTheLongest();
        test.takenOutOfManyRuns();
        test.takenOutOfNone();
        test.cutInAFullLeaf();
        test.stripIsPunchOfOneEach();
        test.writeInOneRun();
        test.writeNotInOneRun();
        test.writeJoins();
        test.writeTooLongToJoin();
        test.writeAtTheVolumesEnd();
        test.look();
        test.written();
        test.reachInARun();
        test.reachInNone();
        test.reachOverNodes();
        test.countOfRuns();
        test.countOfBlocks();
        test.checks.end("RunEdgesTest");
    }

    /** What file 0 has after a run was put into one with a single run. */
    private static String two(String runs, int first, int length, int volume, boolean written) {
        ExtentTree tree = new ExtentTree(5);
        putAll(tree, runs);
        int told = tree.put(0, first, length, volume, written);
        return told + ": " + Told.runs(tree, 0);
    }

    /** Puts runs in that are written as Told.runs() tells them. */
    private static void putAll(ExtentTree tree, String runs) {
        for (String run : runs.split(" ")) {
            String[] part = run.substring(0, run.length() - 1).split("[:@]");
            tree.put(0, Integer.parseInt(part[0]), Integer.parseInt(part[1]),
                    Integer.parseInt(part[2]), run.endsWith("+"));
        }
    }

    private static ExtentTree having(String runs) {
        ExtentTree tree = new ExtentTree(5);
        putAll(tree, runs);
        return tree;
    }

    /** "No two runs have a file block in common." "IllegalStateException: one .. is in a run." */
    private void noBlockInCommon() {
        ExtentTree tree = having("100:10@1000+ 120:1@2000-");
        int[][] wrong = {{99, 2}, {100, 1}, {95, 6}, {109, 1}, {109, 2}, {104, 2}, {90, 40},
            {100, 10}, {120, 1}, {119, 2}, {120, 2}, {110, 11}, {0, 32768}};
        for (int[] run : wrong) {
            checks.refuses("put over " + run[0], STATE, tree,
                    () -> tree.put(0, run[0], run[1], 7, true));
            checks.refuses("put over, unwritten " + run[0], STATE, tree,
                    () -> tree.put(0, run[0], Math.min(run[1], 32767), 7, false));
        }
        checks.is("up to a run", tree.put(0, 90, 10, 7, true), 3);
        checks.is("from a run to the next", tree.put(0, 110, 10, 7, true), 4);
        checks.is("behind a run", tree.put(0, 121, 10, 7, true), 5);
        checks.is("the same of another file", tree.put(1, 100, 10, 1000, true), 1);
        checks.is("the same volume blocks", tree.put(0, 200, 10, 1000, true), 6);
    }

    /** "The run right before it (its file blocks and volume blocks end where these begin)." */
    private void rightBefore() {
        String one = "100:10@1000+";
        checks.is("joined", two(one, 110, 5, 1010, true), "1: 100:15@1000+");
        checks.is("a block between", two(one, 111, 5, 1011, true), "2: 100:10@1000+ 111:5@1011+");
        checks.is("a file block between", two(one, 111, 5, 1010, true),
                "2: 100:10@1000+ 111:5@1010+");
        checks.is("a volume block between", two(one, 110, 5, 1011, true),
                "2: 100:10@1000+ 110:5@1011+");
        checks.is("a volume block in common", two(one, 110, 5, 1009, true),
                "2: 100:10@1000+ 110:5@1009+");
        checks.is("the first blocks of all", two("0:1@1-", 1, 1, 2, false), "1: 0:2@1-");
        checks.is("the last blocks of all", two("65534:1@16777215-", 65535, 1, LAST_VOLUME, false),
                "1: 65534:2@16777215-");
    }

    /** ".. is written or not as it is", of the run before. */
    private void writtenOrNotAsTheOneBefore() {
        checks.is("both", two("5:2@50+", 7, 2, 52, true), "1: 5:4@50+");
        checks.is("neither", two("5:2@50-", 7, 2, 52, false), "1: 5:4@50-");
        checks.is("the first", two("5:2@50+", 7, 2, 52, false), "2: 5:2@50+ 7:2@52-");
        checks.is("the second", two("5:2@50-", 7, 2, 52, true), "2: 5:2@50- 7:2@52+");
    }

    /** ".. and both are not too long for one", of the run before. */
    private void tooLongWithTheOneBefore() {
        checks.is("32768 written", two("0:32767@1+", 32767, 1, 32768, true), "1: 0:32768@1+");
        checks.is("32769 written", two("0:32767@1+", 32767, 2, 32768, true),
                "2: 0:32767@1+ 32767:2@32768+");
        checks.is("32769 by one", two("0:32768@1+", 32768, 1, 32769, true),
                "2: 0:32768@1+ 32768:1@32769+");
        checks.is("32768 by many", two("0:1@1+", 1, 32767, 2, true), "1: 0:32768@1+");
        checks.is("32769 by many", two("0:1@1+", 1, 32768, 2, true), "2: 0:1@1+ 1:32768@2+");
        checks.is("65536", two("0:32768@1+", 32768, 32768, 32769, true),
                "2: 0:32768@1+ 32768:32768@32769+");
        checks.is("32767 unwritten", two("0:32766@1-", 32766, 1, 32767, false), "1: 0:32767@1-");
        checks.is("32768 unwritten", two("0:32766@1-", 32766, 2, 32767, false),
                "2: 0:32766@1- 32766:2@32767-");
        checks.is("32768 by one", two("0:32767@1-", 32767, 1, 32768, false),
                "2: 0:32767@1- 32767:1@32768-");
        checks.is("32767 by many", two("0:1@1-", 1, 32766, 2, false), "1: 0:32767@1-");
        checks.is("32768, too long", two("0:1@1-", 1, 32767, 2, false), "2: 0:1@1- 1:32767@2-");
    }

    /** "If the run right behind .. could be one with that likewise", of where it begins. */
    private void rightBehind() {
        String one = "100:10@1000+";
        checks.is("joined", two(one, 95, 5, 995, true), "1: 95:15@995+");
        checks.is("a block between", two(one, 94, 5, 994, true), "2: 94:5@994+ 100:10@1000+");
        checks.is("a file block between", two(one, 94, 5, 995, true),
                "2: 94:5@995+ 100:10@1000+");
        checks.is("a volume block between", two(one, 95, 5, 994, true),
                "2: 95:5@994+ 100:10@1000+");
        checks.is("a volume block in common", two(one, 95, 5, 996, true),
                "2: 95:5@996+ 100:10@1000+");
        checks.is("the first blocks of all", two("1:1@2-", 0, 1, 1, false), "1: 0:2@1-");
        checks.is("the last blocks of all", two("65535:1@16777216+", 65534, 1, 16777215, true),
                "1: 65534:2@16777215+");
    }

    /** ".. likewise": written or not as it is, of the run behind. */
    private void writtenOrNotAsTheOneBehind() {
        checks.is("both", two("7:2@52+", 5, 2, 50, true), "1: 5:4@50+");
        checks.is("neither", two("7:2@52-", 5, 2, 50, false), "1: 5:4@50-");
        checks.is("the first", two("7:2@52-", 5, 2, 50, true), "2: 5:2@50+ 7:2@52-");
        checks.is("the second", two("7:2@52+", 5, 2, 50, false), "2: 5:2@50- 7:2@52+");
        checks.is("as the one before", two("5:2@50- 8:2@53+", 7, 1, 52, false),
                "2: 5:3@50- 8:2@53+");
        checks.is("as the one behind", two("5:2@50- 8:2@53+", 7, 1, 52, true),
                "2: 5:2@50- 7:3@52+");
        checks.is("as none of both", two("5:2@50- 8:2@53-", 7, 1, 52, true),
                "3: 5:2@50- 7:1@52+ 8:2@53-");
    }

    /** ".. likewise": not too long for one, of the run behind. */
    private void tooLongWithTheOneBehind() {
        checks.is("32768 written", two("1:32767@2+", 0, 1, 1, true), "1: 0:32768@1+");
        checks.is("32769 written", two("1:32768@2+", 0, 1, 1, true), "2: 0:1@1+ 1:32768@2+");
        checks.is("32768 by many", two("32767:1@32768+", 0, 32767, 1, true), "1: 0:32768@1+");
        checks.is("32769 by many", two("32768:1@32769+", 0, 32768, 1, true),
                "2: 0:32768@1+ 32768:1@32769+");
        checks.is("32767 unwritten", two("1:32766@2-", 0, 1, 1, false), "1: 0:32767@1-");
        checks.is("32768 unwritten", two("1:32767@2-", 0, 1, 1, false), "2: 0:1@1- 1:32767@2-");
    }

    /** "With a run before, that one is longer still, and the one behind GOES." */
    private void threeBecomeOne() {
        checks.is("written", two("5:2@50+ 8:2@53+", 7, 1, 52, true), "1: 5:5@50+");
        checks.is("unwritten", two("5:2@50- 8:2@53-", 7, 1, 52, false), "1: 5:5@50-");
        checks.is("32768 written", two("0:16384@1+ 16385:16383@16386+", 16384, 1, 16385, true),
                "1: 0:32768@1+");
        checks.is("32767 unwritten", two("0:16384@1- 16385:16382@16386-", 16384, 1, 16385, false),
                "1: 0:32767@1-");
        checks.is("a volume block between", two("5:2@50+ 8:2@54+", 7, 1, 52, true),
                "2: 5:3@50+ 8:2@54+");
        checks.is("a file block between", two("5:2@50+ 9:2@53+", 7, 1, 52, true),
                "2: 5:3@50+ 9:2@53+");
    }

    /** ".. the one that is longer now": its length counts with that of the run behind. */
    private void tooLongWithTheOneBehindToo() {
        checks.is("32769 written", two("0:16384@1+ 16385:16384@16386+", 16384, 1, 16385, true),
                "2: 0:16385@1+ 16385:16384@16386+");
        checks.is("32768 unwritten", two("0:16384@1- 16385:16383@16386-", 16384, 1, 16385, false),
                "2: 0:16385@1- 16385:16383@16386-");
        checks.is("the first is as long as may be", two("0:32767@1+ 32768:1@32769+", 32767, 1,
                32768, true), "2: 0:32768@1+ 32768:1@32769+");
    }

    /** ".. the new one": it can be one with the run behind where it can't with that before. */
    private void tooLongBeforeButNotBehind() {
        checks.is("written", two("0:32768@1+ 32770:32766@32771+", 32768, 2, 32769, true),
                "2: 0:32768@1+ 32768:32768@32769+");
        checks.is("too long for both", two("0:32768@1+ 32769:32767@32770+", 32768, 1, 32769, true),
                "2: 0:32768@1+ 32768:32768@32769+");
        checks.is("unwritten", two("0:32767@1- 32769:32766@32770-", 32767, 2, 32768, false),
                "3: 0:32767@1- 32767:2@32768- 32769:32766@32770-");
        checks.is("unwritten, by one", two("0:32767@1- 32768:32766@32769-", 32767, 1, 32768,
                false), "2: 0:32767@1- 32767:32767@32768-");
    }

    /** ".. and the one behind GOES", from the leaf that it is in. */
    private void theOneBehindGoes() {
        ExtentTree tree = having("10:1@101+ 20:1@103+ 30:1@105+ 32:1@107+ 40:1@201+ 60:1@301+");
        checks.is("first in the next leaf", Told.firsts(tree, 2), "32 40 60");
        checks.is("three become one", tree.put(0, 31, 1, 106, true), 5);
        checks.is("the run before has all", tree.reach(0, 30), 3);
        checks.is("its leaf", Told.firsts(tree, 1), "10 20 30");
        checks.is("the next leaf", Told.firsts(tree, 2), "40 60");
        checks.is("as told above", Told.firsts(tree, 0), "10 40");
        tree = having("10:1@101+ 20:1@103+ 22:1@105+ 30:1@201+ 40:1@301+ 50:1@401+");
        checks.is("in the same leaf", tree.put(0, 21, 1, 104, true), 5);
        checks.is("that one is left with two", Told.firsts(tree, 1), "10 20");
        checks.is("the other has its own", Told.firsts(tree, 2), "30 40 50");
    }

    /** "Without, the one behind begins where the new one does, and is longer." */
    private void theOneBehindBeginsEarlier() {
        ExtentTree tree = Shapes.tens(5, 18);
        checks.is("above", Told.firsts(tree, 0), "10 100");
        checks.is("below", Told.firsts(tree, 8), "100 130 160");
        checks.is("put", tree.put(0, 99, 1, 118, true), 18);
        checks.is("in the leaf", Told.firsts(tree, 4), "99 110 120");
        checks.is("above it", Told.firsts(tree, 8), "99 130 160");
        checks.is("in the root", Told.firsts(tree, 0), "10 99");
        checks.is("the leaf before is as it was", Told.firsts(tree, 3), "70 80 90");
        checks.is("volume", tree.look(0, 99), 118);
        checks.is("longer", tree.reach(0, 99), 2);
        checks.is("put before all", tree.put(0, 8, 2, 99, true), 18);
        checks.is("told in the root", Told.firsts(tree, 0), "8 99");
        checks.is("not the first of a leaf", tree.put(0, 19, 1, 102, true), 18);
        checks.is("told in the leaf alone", Told.firsts(tree, 1), "8 19 30");
    }

    /** "A new entry, right behind that of the run before (..), in its leaf." */
    private void behindTheRunBefore() {
        ExtentTree tree = Shapes.tens(5, 6);
        tree.put(0, 39, 1, 7, true);
        checks.is("the last of the leaf before", Told.firsts(tree, 1), "10 20 30 39");
        checks.is("not the first of the next", Told.firsts(tree, 2), "40 50 60");
        tree.put(0, 41, 1, 7, true);
        checks.is("right behind the first", Told.firsts(tree, 2), "40 41 50 60");
        tree.put(0, 11, 9, 7, true);
        checks.is("between two that it meets", Told.firsts(tree, 1), "10 11 20 30 39");
        tree.put(0, 65535, 1, 7, true);
        checks.is("the last of all", Told.firsts(tree, 2), "40 41 50 60 65535");
    }

    /** "Without such a run the first one in the first leaf." */
    private void withoutARunBefore() {
        ExtentTree tree = new ExtentTree(5);
        tree.put(0, 7, 1, 7, true);
        checks.is("in an empty root", Told.firsts(tree, 0), "7");
        tree.put(0, 6, 1, 7, true);
        checks.is("in a root", Told.firsts(tree, 0), "6 7");
        tree = Shapes.tens(5, 18);
        tree.put(0, 9, 1, 7, true);
        checks.is("in the first leaf", Told.firsts(tree, 1), "9 10 20 30");
        checks.is("told above it", Told.firsts(tree, 6), "9 40 70");
        checks.is("told in the root", Told.firsts(tree, 0), "9 100");
        tree.put(0, 0, 1, 7, true);
        checks.is("once more", Told.firsts(tree, 0), "0 100");
        tree.put(0, 1, 1, 7, true);
        checks.is("with such a run", Told.firsts(tree, 1), "0 1 9 10");
        checks.is("the leaf was split", Told.firsts(tree, 9), "20 30");
    }

    private String punched(String runs, int first, int length) {
        ExtentTree tree = having(runs);
        int told = tree.punch(0, first, length);
        return told + ": " + Told.runs(tree, 0);
    }

    /** "A run of which all are taken out goes; .. the first ones ..; the last ones ..; some .." */
    private void takenOutOfOneRun() {
        for (String sign : new String[] {"+", "-"}) {
            String one = "100:10@1000" + sign;
            checks.is("up to it", punched(one, 90, 10), "0: " + one);
            checks.is("behind it", punched(one, 110, 10), "0: " + one);
            checks.is("its first", punched(one, 90, 11), "1: 101:9@1001" + sign);
            checks.is("just its first", punched(one, 100, 1), "1: 101:9@1001" + sign);
            checks.is("all but the last", punched(one, 100, 9), "9: 109:1@1009" + sign);
            checks.is("its last", punched(one, 109, 11), "1: 100:9@1000" + sign);
            checks.is("just its last", punched(one, 109, 1), "1: 100:9@1000" + sign);
            checks.is("all but the first", punched(one, 101, 9), "9: 100:1@1000" + sign);
            checks.is("just all", punched(one, 100, 10), "10: ");
            checks.is("more than all", punched(one, 99, 12), "10: ");
            checks.is("all but both ends", punched(one, 101, 8),
                    "8: 100:1@1000" + sign + " 109:1@1009" + sign);
            checks.is("the second", punched(one, 101, 1),
                    "1: 100:1@1000" + sign + " 102:8@1002" + sign);
            checks.is("the last but one", punched(one, 108, 1),
                    "1: 100:8@1000" + sign + " 109:1@1009" + sign);
        }
    }

    /** The same of the shortest run. */
    private void takenOutOfOneBlock() {
        checks.is("it", punched("100:1@7+", 100, 1), "1: ");
        checks.is("before it", punched("100:1@7+", 99, 1), "0: 100:1@7+");
        checks.is("behind it", punched("100:1@7+", 101, 1), "0: 100:1@7+");
        checks.is("the first of all", punched("0:1@7+", 0, 1), "1: ");
        checks.is("the last of all", punched("65535:1@7+", 65535, 1), "1: ");
    }

    /** The same of the longest run. */
    private void takenOutOfTheLongest() {
        checks.is("its first", punched("0:32768@1+", 0, 1), "1: 1:32767@2+");
        checks.is("its last", punched("0:32768@1+", 32767, 1), "1: 0:32767@1+");
        checks.is("its second", punched("0:32768@1+", 1, 1), "1: 0:1@1+ 2:32766@3+");
        checks.is("all", punched("0:32768@1+", 0, 65536), "32768: ");
        checks.is("the first of an unwritten", punched("9:32767@1-", 9, 1), "1: 10:32766@2-");
        checks.is("the second of it", punched("9:32767@1-", 10, 1), "1: 9:1@1- 11:32765@3-");
    }

    /** "File blocks are TAKEN OUT of runs, from the first run that has some on." */
    private void takenOutOfManyRuns() {
        String three = "100:10@1000+ 110:5@2000- 120:10@3000+";
        checks.is("from a last to a first", punched(three, 109, 12),
                "7: 100:9@1000+ 121:9@3001+");
        checks.is("from an end to a beginning", punched(three, 110, 10),
                "5: 100:10@1000+ 120:10@3000+");
        checks.is("just all of two", punched(three, 100, 15), "15: 120:10@3000+");
        checks.is("and one of the third", punched(three, 100, 21), "16: 121:9@3001+");
        checks.is("all but the ends", punched(three, 101, 28), "23: 100:1@1000+ 129:1@3009+");
        checks.is("just all", punched(three, 100, 30), "25: ");
        checks.is("one of two that meet", punched(three, 109, 2),
                "2: 100:9@1000+ 111:4@2001- 120:10@3000+");
        ExtentTree tree = Shapes.tens(5, 100);
        checks.is("of many leaves", tree.punch(0, 20, 970), 97);
        checks.is("the first and two are left", Told.runs(tree, 0),
                "10:1@101+ 990:1@297+ 1000:1@299+");
        // Two entries in the root stay two, however few runs are below them.
        checks.is("as deep as before", tree.count(0, 1), 3);
        checks.is("a node of each depth for each", tree.count(0, 2), 6);
    }

    /** "How many were in runs": none. */
    private void takenOutOfNone() {
        ExtentTree tree = Shapes.tens(5, 18);
        byte[] before = Told.everything(tree);
        checks.is("between", tree.punch(0, 11, 9), 0);
        checks.is("before all", tree.punch(0, 0, 10), 0);
        checks.is("behind all", tree.punch(0, 181, 65355), 0);
        checks.is("of an empty file", tree.punch(1, 0, 65536), 0);
        checks.is("strip", tree.strip(0, 1, 10, 18), 0);
        checks.is("as before", Arrays.equals(Told.everything(tree), before), true);
    }

    /** "What is behind them is a new entry right behind its own." */
    private void cutInAFullLeaf() {
        String[] old = {"10 12 20 30", "10 20 22 30", "10 20 30 32", "10 20 30", "10 20 30"};
        String[] fresh = {"40 50", "40 50", "40 50", "40 42 50", "40 50 52"};
        for (int i = 0; i < 5; i++) {
            ExtentTree tree = having("10:3@100- 20:3@200- 30:3@300- 40:3@400- 50:3@500-");
            checks.is("a full leaf", Told.firsts(tree, 1), "10 20 30 40 50");
            checks.is("cut", tree.punch(0, 11 + 10 * i, 1), 1);
            checks.is("old leaf " + i, Told.firsts(tree, 1), old[i]);
            checks.is("new leaf " + i, Told.firsts(tree, 2), fresh[i]);
            checks.is("behind the cut", tree.look(0, 12 + 10 * i), 102 + 100 * i);
        }
    }

    /** "Punch() of one block each, at first, first + step, .., many of them." */
    private void stripIsPunchOfOneEach() {
        ExtentTree tree = having("100:10@1000-");
        checks.is("some before, some behind", tree.strip(0, 96, 4, 5), 3);
        checks.is("cut", Told.runs(tree, 0), "101:3@1001- 105:3@1005- 109:1@1009-");
        checks.is("one", tree.strip(0, 109, 2000, 1), 1);
        checks.is("side by side", tree.strip(0, 103, 1, 3), 2);
        checks.is("left", Told.runs(tree, 0), "101:2@1001- 106:2@1006-");
        checks.is("not the next one", tree.strip(0, 99, 1, 2), 0);
    }

    private String wrote(String runs, int first, int length) {
        ExtentTree tree = having(runs);
        int told = tree.write(0, first, length);
        return told + ": " + Told.runs(tree, 0);
    }

    /** "File blocks of one run that is not yet written are taken out of it, and put in." */
    private void writeInOneRun() {
        String one = "100:10@1000-";
        checks.is("all", wrote(one, 100, 10), "1: 100:10@1000+");
        checks.is("the first", wrote(one, 100, 1), "2: 100:1@1000+ 101:9@1001-");
        checks.is("the last", wrote(one, 109, 1), "2: 100:9@1000- 109:1@1009+");
        checks.is("all but the first", wrote(one, 101, 9), "2: 100:1@1000- 101:9@1001+");
        checks.is("all but the last", wrote(one, 100, 9), "2: 100:9@1000+ 109:1@1009-");
        checks.is("all but both", wrote(one, 101, 8),
                "3: 100:1@1000- 101:8@1001+ 109:1@1009-");
        checks.is("one block", wrote("100:1@7-", 100, 1), "1: 100:1@7+");
        checks.is("the longest", wrote("0:32767@1-", 0, 32767), "1: 0:32767@1+");
        checks.is("the first of all", wrote("0:2@1-", 0, 1), "2: 0:1@1+ 1:1@2-");
    }

    /** "IllegalStateException: they are not all in one such run." */
    private void writeNotInOneRun() {
        ExtentTree tree = having("100:10@1000- 110:10@2000- 130:10@3000+ 140:10@4000-");
        int[][] wrong = {{99, 1}, {99, 2}, {99, 11}, {109, 2}, {100, 11}, {100, 20}, {119, 2},
            {120, 1}, {129, 1}, {129, 2}, {130, 1}, {139, 1}, {139, 2}, {149, 2}, {150, 1},
            {0, 1}, {65535, 1}, {0, 65536}, {140, 65396}};
        for (int[] part : wrong) {
            checks.refuses("write " + part[0] + ", " + part[1], STATE, tree,
                    () -> tree.write(0, part[0], part[1]));
        }
        checks.refuses("of an empty file", STATE, tree, () -> tree.write(1, 100, 1));
        int[][] good = {{100, 10}, {110, 10}, {140, 10}};
        for (int[] part : good) {
            checks.is("write " + part[0], tree.write(0, part[0], part[1]) > 0, true);
        }
        for (int[] part : good) {
            checks.refuses("once more " + part[0], STATE, tree, () -> tree.write(0, part[0], 1));
        }
        checks.is("runs", Told.runs(tree, 0),
                "100:10@1000+ 110:10@2000+ 130:10@3000+ 140:10@4000+");
    }

    /** ".. and put in as a written run with the same volume blocks", next to written ones. */
    private void writeJoins() {
        String three = "90:10@990+ 100:10@1000- 110:10@1010+";
        checks.is("before", wrote(three, 100, 1),
                "3: 90:11@990+ 101:9@1001- 110:10@1010+");
        checks.is("behind", wrote(three, 109, 1),
                "3: 90:10@990+ 100:9@1000- 109:11@1009+");
        checks.is("both", wrote(three, 100, 10), "1: 90:30@990+");
        checks.is("none", wrote(three, 101, 8),
                "5: 90:10@990+ 100:1@1000- 101:8@1001+ 109:1@1009- 110:10@1010+");
        checks.is("other volume blocks", wrote("90:10@991+ 100:1@1000- 101:1@1002+", 100, 1),
                "3: 90:10@991+ 100:1@1000+ 101:1@1002+");
    }

    /** The same, with runs that are too long to be one. */
    private void writeTooLongToJoin() {
        checks.is("32768", wrote("0:32767@1+ 32767:9@32768-", 32767, 1),
                "2: 0:32768@1+ 32768:8@32769-");
        checks.is("32769", wrote("0:32767@1+ 32767:9@32768-", 32767, 2),
                "3: 0:32767@1+ 32767:2@32768+ 32769:7@32770-");
        checks.is("32769 by one", wrote("0:32768@1+ 32768:9@32769-", 32768, 1),
                "3: 0:32768@1+ 32768:1@32769+ 32769:8@32770-");
        checks.is("with the one behind", wrote("0:32768@1+ 32768:9@32769- 32777:1@32778+",
                32768, 9), "2: 0:32768@1+ 32768:10@32769+");
    }

    /** The same at the end of the file and of the volume. */
    private void writeAtTheVolumesEnd() {
        String last = "65534:2@16777215-";
        checks.is("the last", wrote(last, 65535, 1), "2: 65534:1@16777215- 65535:1@16777216+");
        checks.is("the one before", wrote(last, 65534, 1),
                "2: 65534:1@16777215+ 65535:1@16777216-");
        checks.is("both", wrote(last, 65534, 2), "1: 65534:2@16777215+");
    }

    /** "The volume block of a file block; -1 if it is in no run." */
    private void look() {
        ExtentTree tree = having("0:1@16777216+ 10:5@1- 65535:1@7+");
        int[] blocks = {0, 1, 9, 10, 14, 15, 65534, 65535};
        int[] due = {LAST_VOLUME, -1, -1, 1, 5, -1, -1, 7};
        for (int i = 0; i < blocks.length; i++) {
            checks.is("look " + blocks[i], tree.look(0, blocks[i]), due[i]);
            checks.is("of an empty file " + blocks[i], tree.look(3, blocks[i]), -1);
        }
    }

    /** "Whether a file block is in a written run." */
    private void written() {
        ExtentTree tree = having("0:1@7- 1:1@9+ 10:5@1+ 15:5@20- 65535:1@7+");
        int[] blocks = {0, 1, 2, 9, 10, 14, 15, 19, 20, 65534, 65535};
        boolean[] due = {false, true, false, false, true, true, false, false, false, false, true};
        for (int i = 0; i < blocks.length; i++) {
            checks.is("written " + blocks[i], tree.written(0, blocks[i]), due[i]);
            checks.is("of an empty file " + blocks[i], tree.written(3, blocks[i]), false);
        }
        checks.is("the longest", having("5:32768@1+").written(0, 32772), true);
        checks.is("the longest unwritten", having("5:32767@1-").written(0, 5), false);
    }

    /** "How many file blocks, from one on, are in the same run." */
    private void reachInARun() {
        ExtentTree tree = having("10:5@100+ 15:5@300+ 20:5@305- 65535:1@7+");
        int[] blocks = {10, 14, 15, 19, 20, 24, 65535};
        int[] due = {5, 1, 5, 1, 5, 1, 1};
        for (int i = 0; i < blocks.length; i++) {
            checks.is("reach " + blocks[i], tree.reach(0, blocks[i]), due[i]);
        }
        tree = having("0:32768@1+ 32768:32768@32769+");
        checks.is("the longest", tree.reach(0, 0), 32768);
        checks.is("its last", tree.reach(0, 32767), 1);
        checks.is("the next", tree.reach(0, 32768), 32768);
        checks.is("the last of all", tree.reach(0, 65535), 1);
    }

    /** ".. or, if it is in none, are in none, one after the other." */
    private void reachInNone() {
        ExtentTree tree = having("10:5@100+ 16:5@300+ 65534:1@7+");
        int[] blocks = {0, 9, 15, 21, 65533, 65535};
        int[] due = {10, 1, 1, 65513, 1, 1};
        for (int i = 0; i < blocks.length; i++) {
            checks.is("reach " + blocks[i], tree.reach(0, blocks[i]), due[i]);
        }
        checks.is("of an empty file", tree.reach(1, 0), 65536);
        checks.is("of its last", tree.reach(1, 65535), 1);
    }

    /** The same where the next run is in another leaf, below another node. */
    private void reachOverNodes() {
        ExtentTree tree = Shapes.deep(5, 4);
        for (int i = 1; i < 190; i++) {
            checks.is("the one between", tree.reach(0, 60000 - 4 * i + 3), 1);
            checks.is("the run", tree.reach(0, 60000 - 4 * i), 3);
        }
        checks.is("to the first run", tree.reach(0, 0), 60000 - 4 * 189);
        checks.is("to the end", tree.reach(0, 60003), 65536 - 60003);
    }

    /** "Of a file: 0 how many runs, .. 3 how many file blocks are in runs, 4 .. written." */
    private void countOfRuns() {
        ExtentTree tree = new ExtentTree(5);
        int[][] due = {{1, 32768, 32768}, {2, 65535, 32768}, {3, 65536, 32769}};
        tree.put(0, 0, 32768, 1, true);
        counted(tree, due[0]);
        tree.put(0, 32768, 32767, 1, false);
        counted(tree, due[1]);
        tree.put(0, 65535, 1, 1, true);
        counted(tree, due[2]);
        tree.write(0, 32768, 32767);
        counted(tree, 3, 65536, 65536);
        tree.punch(0, 0, 65535);
        counted(tree, 1, 1, 1);
        tree.punch(0, 65535, 1);
        counted(tree, 0, 0, 0);
    }

    private void counted(ExtentTree tree, int... due) {
        checks.is("runs", tree.count(0, 0), due[0]);
        checks.is("in runs", tree.count(0, 3), due[1]);
        checks.is("written", tree.count(0, 4), due[2]);
        for (int what : new int[] {0, 3, 4}) {
            checks.is("of another file", tree.count(1, what), 0);
        }
    }

    /** ".. 1 its depth, 2 how many blocks of the pool its tree has, .. 5 how many leaves." */
    private void countOfBlocks() {
        int[] runs = {0, 1, 4, 5, 6, 14, 15, 17, 18};
        int[] depths = {0, 0, 0, 1, 1, 1, 2, 2, 2};
        int[] blocks = {0, 0, 0, 1, 2, 4, 6, 6, 8};
        int[] leaves = {1, 1, 1, 1, 2, 4, 5, 5, 6};
        for (int i = 0; i < runs.length; i++) {
            ExtentTree tree = runs[i] == 0 ? new ExtentTree(5) : Shapes.tens(5, runs[i]);
            checks.is("depth with " + runs[i], tree.count(0, 1), depths[i]);
            checks.is("blocks with " + runs[i], tree.count(0, 2), blocks[i]);
            checks.is("leaves with " + runs[i], tree.count(0, 5), leaves[i]);
            checks.is("free with " + runs[i], tree.free(), 255 - blocks[i]);
            tree.punch(0, 0, 65536);
            checks.is("depth without", tree.count(0, 1), 0);
            checks.is("blocks without", tree.count(0, 2), 0);
            checks.is("leaves without", tree.count(0, 5), 1);
            checks.is("free without", tree.free(), 255);
        }
    }
}
