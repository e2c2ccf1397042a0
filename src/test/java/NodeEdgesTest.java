import java.util.ArrayList;
import java.util.List;

/**
 * Nodes that are empty, full, split, grown and given back, and their bytes. Above each test stands
 * the sentence of the document that it is for.
 */
public final class NodeEdgesTest {
    private static final Class<?> INDEX = IndexOutOfBoundsException.class;
    private static final int LAST_VOLUME = 1 << 24;

    private final Checks checks = new Checks();

    public static void main(String[] args) {
        NodeEdgesTest test = new NodeEdgesTest();
        test.newRoot();
        test.rootWithoutRoom();
        test.leafWithoutRoom();
        test.half();
        test.placeInALeaf();
        test.placeInANodeAbove();
        test.asFarAsThereIsNoRoom();
        test.takenInOrder();
        test.leastNumber();
        test.anEntryGoes();
        test.blockWithoutEntries();
        test.rootWithoutEntries();
        test.rootTakesALeaf();
        test.rootTakesANode();
        test.rootTakesMoreThanOne();
        test.rootWithTwoEntries();
        test.endOfPut();
        test.endOfSpread();
        test.endOfStrip();
        test.endOfWrite();
        test.rootBytes();
        test.fullRootBytes();
        test.leafBytes();
        test.fullBlockBytes();
        test.bytesAboveALeaf();
        test.noOldBytes();
        test.wellFormed();
        test.checks.end("NodeEdgesTest");
    }

    private void bytes(String what, ExtentTree tree, int block, int size, int... due) {
        for (int i = 0; i < size; i++) {
            checks.is(what + ", byte " + i, Told.number(tree, block, i, 1),
                    i < due.length ? due[i] : 0);
        }
    }

    /** "The depth of a file is its root's (0 at first, without entries)." "No runs." */
    private void newRoot() {
        for (int m : new int[] {5, 84}) {
            bytes("new root", new ExtentTree(m), 0, 60, 0x0A, 0xF3, 0, 0, 4, 0, 0, 0);
        }
    }

    /** "How many it may have: 4 in a root." "A root without room will GROW." */
    private void rootWithoutRoom() {
        for (int m : new int[] {5, 84}) {
            ExtentTree tree = Shapes.tens(m, 3);
            tree.put(0, 25, 1, 7, true);
            checks.is("the fourth", Told.firsts(tree, 0), "10 20 25 30");
            checks.is("no block", tree.free(), 255);
            checks.is("depth 0", tree.count(0, 1), 0);
            tree.put(0, 5, 1, 7, true);
            checks.is("the fifth", Told.firsts(tree, 1), "5 10 20 25 30");
            checks.is("one entry, for that block", Told.firsts(tree, 0), "5");
            checks.is("block 1", Told.below(tree, 0), "1");
            checks.is("deeper by one", tree.count(0, 1), 1);
            checks.is("one block", tree.free(), 254);
        }
    }

    /** ".. m in a block." "If the node has as many as it may have, there is no room." */
    private void leafWithoutRoom() {
        for (int m : new int[] {5, 6, 7, 83, 84}) {
            ExtentTree tree = Shapes.tens(m, m - 1);
            checks.is("m less one, leaves", tree.count(0, 5), 1);
            tree.put(0, 60000, 1, 7, true);
            checks.is("m, leaves", tree.count(0, 5), 1);
            checks.is("m, entries", Told.entries(tree, 1), m);
            tree.put(0, 60002, 1, 7, true);
            checks.is("m and 1, leaves", tree.count(0, 5), 2);
            checks.is("m and 1, blocks", tree.count(0, 2), 2);
        }
    }

    /** "The new block has its entries from h on, h being half of m and 1 (cut)." */
    private void half() {
        int[] rooms = {5, 6, 7, 8, 83, 84};
        int[] due = {3, 3, 4, 4, 42, 42};
        for (int i = 0; i < rooms.length; i++) {
            ExtentTree last = Shapes.tens(rooms[i], rooms[i] + 1);
            checks.is("old one, m " + rooms[i], Told.entries(last, 1), due[i]);
            checks.is("new one, m " + rooms[i], Told.entries(last, 2), rooms[i] - due[i] + 1);
            checks.is("begins at h", Told.number(last, 0, 24, 4), 10 * due[i] + 10);
            ExtentTree first = Shapes.tens(rooms[i], rooms[i]);
            first.put(0, 5, 1, 7, true);
            checks.is("old one and one", Told.entries(first, 1), due[i] + 1);
            checks.is("new one alone", Told.entries(first, 2), rooms[i] - due[i]);
            checks.is("begins at h too", Told.number(first, 0, 24, 4), 10 * due[i] + 10);
        }
    }

    /** ".. (of the leaf, at k) comes into the old block, if k is h or less, else into the new." */
    private void placeInALeaf() {
        String[] old = {"5 10 20 30", "10 15 20 30", "10 20 25 30", "10 20 30 35", "10 20 30",
            "10 20 30"};
        String[] fresh = {"40 50", "40 50", "40 50", "40 50", "40 45 50", "40 50 55"};
        for (int k = 0; k <= 5; k++) {
            ExtentTree tree = Shapes.tens(5, 5);
            tree.put(0, 5 + 10 * k, 1, 7, true);
            checks.is("old leaf, k " + k, Told.firsts(tree, 1), old[k]);
            checks.is("new leaf, k " + k, Told.firsts(tree, 2), fresh[k]);
            checks.is("above, k " + k, Told.firsts(tree, 0), k == 0 ? "5 40" : "10 40");
        }
        for (int k : new int[] {42, 43}) {
            ExtentTree tree = Shapes.tens(84, 84);
            tree.put(0, 5 + 10 * k, 1, 7, true);
            checks.is("old leaf of 84, k " + k, Told.entries(tree, 1), k == 42 ? 43 : 42);
            checks.is("new leaf of 84, k " + k, Told.entries(tree, 2), k == 42 ? 42 : 43);
            checks.is("new leaf begins at h", Told.number(tree, 2, 12, 4), 430);
        }
    }

    /** ".. (of the node above, right behind the node below that is split next)." */
    private void placeInANodeAbove() {
        // Block 6 is full with the leaves 1 to 5; leaf j is made full, and then split into 7.
        String[] old = {"1 7 2 3", "1 2 7 3", "1 2 3 7", "1 2 3", "1 2 3"};
        String[] fresh = {"4 5", "4 5", "4 5", "4 7 5", "4 5 7"};
        for (int j = 0; j < 5; j++) {
            ExtentTree tree = Shapes.tens(5, 17);
            checks.is("a full node", Told.below(tree, 6), "1 2 3 4 5");
            int last = j < 4 ? 30 + 30 * j : 170;
            for (int i = 1; Told.entries(tree, j + 1) < 5; i++) {
                tree.put(0, last + 2 * i, 1, 7, true);
            }
            checks.is("nothing is split yet", tree.free(), 249);
            tree.put(0, last + 8, 1, 7, true);
            checks.is("the leaf's block is the first, then block 8", tree.free(), 247);
            checks.is("old node, leaf " + j, Told.below(tree, 6), old[j]);
            checks.is("new node, leaf " + j, Told.below(tree, 8), fresh[j]);
            checks.is("root", Told.below(tree, 0), "6 8");
            checks.is("told in the root", Told.firsts(tree, 0), "10 100");
            checks.is("depth of the leaf", Told.depth(tree, 7), 0);
            checks.is("depth of the node", Told.depth(tree, 8), 1);
            checks.is("depth of the root", Told.depth(tree, 0), 2);
        }
    }

    /** The nodes from the root to the first or the last leaf. */
    private static List<Integer> way(ExtentTree tree, boolean last) {
        List<Integer> way = new ArrayList<>();
        int block = 0;
        way.add(block);
        while (Told.depth(tree, block) > 0) {
            block = Told.below(tree, block, last ? Told.entries(tree, block) - 1 : 0);
            way.add(block);
        }
        return way;
    }

    private static boolean isFull(ExtentTree tree, int block) {
        return Told.entries(tree, block) == Told.number(tree, block, 4, 2);
    }

    /** "Up from a leaf without room, as far as there is none in one node after the other." */
    private void asFarAsThereIsNoRoom() {
        // Bit n: a put was seen that no node, the leaf alone, the leaf and the one above .. had
        // no room for; bit 16 and n: the same with a root that grew.
        int seen = 0;
        for (int m : new int[] {5, 6, 9}) {
            for (boolean last : new boolean[] {true, false}) {
                ExtentTree tree = new ExtentTree(m);
                for (int i = 1; i <= 130; i++) {
                    List<Integer> way = way(tree, last);
                    int full = 0;
                    while (full < way.size() && isFull(tree, way.get(way.size() - 1 - full))) {
                        full++;
                    }
                    boolean grows = full == way.size();
                    int free = tree.free();
                    int depth = tree.count(0, 1);
                    tree.put(0, last ? 2 * i : 60000 - 2 * i, 1, 7, true);
                    checks.is("as many are taken", free - tree.free(), full);
                    checks.is("deeper if it grows", tree.count(0, 1) - depth, grows ? 1 : 0);
                    seen |= 1 << full + (grows ? 16 : 0);
                }
            }
        }
        checks.is("none to three, without a root that grows", seen & 15, 15);
        checks.is("one to five, with one", seen >> 16, 62);
    }

    /** "A block is taken for each, the leaf's first; .. and a block .. for that behind them." */
    private void takenInOrder() {
        ExtentTree tree = new ExtentTree(5);
        for (int i = 1; i <= 130; i++) {
            int taken = 255 - tree.free();
            tree.put(0, 60000 - 2 * i, 1, 7, true);
            for (int block = taken + 1; block <= 255 - tree.free(); block++) {
                checks.is("depth of block " + block, Told.depth(tree, block), block - taken - 1);
            }
        }
        checks.is("all depths were there", tree.count(0, 1), 5);
    }

    /** "A block that is TAKEN is the free one with the least number." */
    private void leastNumber() {
        ExtentTree tree = new ExtentTree(5);
        tree.spread(1, 10, 10, 5, 7);
        tree.spread(2, 10, 10, 5, 7);
        tree.spread(3, 10, 10, 5, 7);
        tree.spread(0, 10, 10, 5, 7);
        checks.is("the fourth", Told.below(tree, 0), "4");
        tree.punch(3, 0, 65536);
        tree.punch(1, 0, 65536);
        checks.is("1 and 3 are free", Told.isTaken(tree, 1) || Told.isTaken(tree, 3), false);
        tree.spread(0, 60, 10, 1, 107);
        checks.is("1 is the least", Told.below(tree, 0), "4 1");
        tree.spread(0, 70, 10, 3, 207);
        checks.is("then 3", Told.below(tree, 0), "4 1 3");
        tree.spread(0, 100, 10, 3, 307);
        checks.is("then 5", Told.below(tree, 0), "4 1 3 5");
        checks.is("2 is file 2's", tree.rootByte(2, 16), 2);
    }

    /** "An entry GOES": from a leaf with more than one, and from one with one. */
    private void anEntryGoes() {
        ExtentTree tree = Shapes.tens(5, 11);
        checks.is("three leaves", Told.below(tree, 0), "1 2 3");
        tree.punch(0, 50, 11);
        checks.is("one is left", Told.firsts(tree, 2), "40");
        checks.is("the block stays", tree.free(), 252);
        tree.punch(0, 40, 1);
        checks.is("none is left", Told.below(tree, 0), "1 3");
        checks.is("the block is given back", tree.free(), 253);
        checks.fails("it is not taken", INDEX, () -> tree.nodeByte(2, 0));
        tree.punch(0, 10, 1);
        checks.is("the first of a leaf", Told.firsts(tree, 0), "20 70");
        tree.punch(0, 80, 1);
        checks.is("one in the middle", Told.firsts(tree, 3), "70 90 100 110");
    }

    /** "A block that has none then is given back, and its entry above goes, and so on." */
    private void blockWithoutEntries() {
        ExtentTree tree = Shapes.tens(5, 18);
        checks.is("two nodes", Told.below(tree, 0), "6 8");
        checks.is("three leaves below the second", Told.below(tree, 8), "4 5 7");
        tree.punch(0, 100, 60);
        checks.is("one leaf is left", Told.below(tree, 8), "7");
        checks.is("told in the root", Told.firsts(tree, 0), "10 160");
        checks.is("two are given back", tree.free(), 249);
        tree.punch(0, 160, 11);
        checks.is("one run is left in it", Told.firsts(tree, 7), "180");
        checks.is("told above it", Told.firsts(tree, 8), "180");
        checks.is("and in the root", Told.firsts(tree, 0), "10 180");
        checks.is("no block is given back", tree.free(), 249);
        tree.put(1, 0, 1, 7, true);
        tree.punch(0, 180, 1);
        // The leaf and the node above it; and the root has what block 6 had.
        checks.is("the root", Told.below(tree, 0), "1 2 3");
        checks.is("three more", tree.free(), 252);
        checks.is("depth", tree.count(0, 1), 1);
    }

    /** "A root without entries has depth 0." */
    private void rootWithoutEntries() {
        for (int runs : new int[] {1, 4, 5, 6, 15, 60, 100}) {
            ExtentTree tree = Shapes.tens(5, runs);
            checks.is("all", tree.punch(0, 0, 65536), runs);
            bytes("empty root", tree, 0, 60, 0x0A, 0xF3, 0, 0, 4, 0, 0, 0);
            checks.is("all are free", tree.free(), 255);
            checks.is("a run again", tree.put(0, 3, 1, 7, true), 1);
            checks.is("in the root", Told.firsts(tree, 0), "3");
        }
        ExtentTree tree = Shapes.tens(5, 18);
        checks.is("all, one by one", tree.strip(0, 10, 10, 18), 18);
        bytes("empty root", tree, 0, 60, 0x0A, 0xF3, 0, 0, 4, 0, 0, 0);
    }

    /** "While its root has one entry, for a block with at most 4 entries", of a leaf. */
    private void rootTakesALeaf() {
        ExtentTree tree = Shapes.tens(84, 6);
        tree.punch(0, 30, 1);
        checks.is("five stay", Told.firsts(tree, 1), "10 20 40 50 60");
        checks.is("below the root", Told.below(tree, 0), "1");
        checks.is("one block", tree.free(), 254);
        tree.punch(0, 50, 1);
        checks.is("four go to the root", Told.firsts(tree, 0), "10 20 40 60");
        checks.is("with the leaf's depth", tree.count(0, 1), 0);
        checks.is("the block is given back", tree.free(), 255);
        tree = Shapes.tens(84, 6);
        tree.punch(0, 10, 41);
        checks.is("one goes to the root", Told.firsts(tree, 0), "60");
        checks.is("the block is given back", tree.free(), 255);
    }

    /** The same of a block that is no leaf. */
    private void rootTakesANode() {
        ExtentTree tree = Shapes.tens(5, 15);
        checks.is("five stay", Told.below(tree, 6), "1 2 3 4 5");
        tree.punch(0, 20, 11);
        checks.is("five stay still", Told.below(tree, 0), "6");
        tree.punch(0, 10, 1);
        checks.is("four go to the root", Told.below(tree, 0), "2 3 4 5");
        checks.is("as they were", Told.firsts(tree, 0), "40 70 100 130");
        checks.is("with the node's depth", tree.count(0, 1), 1);
        checks.is("two blocks are given back", tree.free(), 251);
        checks.is("leaves", tree.count(0, 5), 4);
    }

    /** The same, "while": as often as it holds. */
    private void rootTakesMoreThanOne() {
        ExtentTree tree = Shapes.tens(5, 17);
        tree.punch(0, 0, 130);
        checks.is("a leaf of five stays", Told.below(tree, 0), "5");
        checks.is("the node above it does not", tree.count(0, 1), 1);
        checks.is("one block", tree.free(), 254);
        tree = Shapes.tens(5, 17);
        tree.punch(0, 0, 131);
        checks.is("a leaf of four does not", Told.firsts(tree, 0), "140 150 160 170");
        checks.is("depth", tree.count(0, 1), 0);
        checks.is("no block", tree.free(), 255);
        tree = Shapes.tens(5, 100);
        checks.is("three deep", tree.count(0, 1), 3);
        tree.punch(0, 11, 65000);
        checks.is("all at once", Told.firsts(tree, 0), "10");
        checks.is("no block", tree.free(), 255);
    }

    /** The same, "one entry": two stay, however few are in them. */
    private void rootWithTwoEntries() {
        ExtentTree tree = Shapes.tens(5, 6);
        tree.punch(0, 20, 11);
        tree.punch(0, 50, 11);
        checks.is("two", Told.firsts(tree, 0), "10 40");
        checks.is("two leaves", tree.count(0, 5), 2);
        checks.is("of one run each", tree.count(0, 0), 2);
        checks.is("depth", tree.count(0, 1), 1);
        tree.punch(0, 10, 1);
        checks.is("one", Told.firsts(tree, 0), "40");
        checks.is("depth 0", tree.count(0, 1), 0);
        checks.is("no block", tree.free(), 255);
    }

    /** "AT THE END of each call that changes a file", of put. */
    private void endOfPut() {
        ExtentTree tree = Shapes.tens(5, 4);
        tree.put(0, 12, 1, 103, true);
        checks.is("five", Told.firsts(tree, 1), "10 12 20 30 40");
        checks.is("three become one", tree.put(0, 11, 1, 102, true), 4);
        checks.is("four", Told.firsts(tree, 0), "10 20 30 40");
        checks.is("no block", tree.free(), 255);
    }

    /** The same of spread. */
    private void endOfSpread() {
        ExtentTree tree = Shapes.tens(5, 4);
        tree.put(0, 12, 1, 103, true);
        checks.is("three become one", tree.spread(0, 11, 1, 1, 102), 1);
        checks.is("four", Told.firsts(tree, 0), "10 20 30 40");
        checks.is("no block", tree.free(), 255);
    }

    /** The same of strip. */
    private void endOfStrip() {
        ExtentTree tree = Shapes.tens(5, 7);
        checks.is("of two leaves", tree.count(0, 5), 2);
        checks.is("two", tree.strip(0, 10, 10, 2), 2);
        checks.is("two leaves still", Told.firsts(tree, 0), "30 40");
        checks.is("one more", tree.strip(0, 30, 10, 1), 1);
        checks.is("four", Told.firsts(tree, 0), "40 50 60 70");
        checks.is("no block", tree.free(), 255);
    }

    /** The same of write. */
    private void endOfWrite() {
        ExtentTree tree = Shapes.tens(5, 4);
        tree.put(0, 11, 1, 102, false);
        checks.is("five", Told.firsts(tree, 1), "10 11 20 30 40");
        checks.is("two become one", tree.write(0, 11, 1), 4);
        checks.is("four", Told.firsts(tree, 0), "10 20 30 40");
        checks.is("no block", tree.free(), 255);
    }

    /** "Its bytes, numbers with the lowest byte first", at the edges of what a run may be. */
    private void rootBytes() {
        ExtentTree tree = new ExtentTree(5);
        tree.put(0, 0, 1, 1, true);
        tree.put(0, 1, 32767, LAST_VOLUME - 32766, false);
        tree.put(0, 32768, 32767, 0x010203, true);
        tree.put(0, 65535, 1, LAST_VOLUME, false);
        bytes("root", tree, 0, 60, 0x0A, 0xF3, 4, 0, 4, 0, 0, 0, 0, 0, 0, 0,
                0, 0, 0, 0, 1, 0, 0, 0, 1, 0, 0, 0,
                1, 0, 0, 0, 255, 255, 0, 0, 0x02, 0x80, 0xFF, 0,
                0, 128, 0, 0, 255, 127, 0, 0, 3, 2, 1, 0,
                255, 255, 0, 0, 1, 128, 0, 0, 0, 0, 0, 1);
    }

    /** "Its length, and 32768 more if it is not yet written": the longest written one. */
    private void fullRootBytes() {
        ExtentTree tree = new ExtentTree(5);
        tree.put(0, 32768, 32768, LAST_VOLUME - 32767, true);
        tree.put(0, 0, 256, 256, false);
        bytes("root", tree, 0, 60, 0x0A, 0xF3, 2, 0, 4, 0, 0, 0, 0, 0, 0, 0,
                0, 0, 0, 0, 0, 129, 0, 0, 0, 1, 0, 0,
                0, 128, 0, 0, 0, 128, 0, 0, 1, 128, 255, 0);
    }

    /** The same of a leaf that is a block. */
    private void leafBytes() {
        ExtentTree tree = new ExtentTree(6);
        tree.put(0, 0, 1, 1, true);
        tree.put(0, 1, 32767, LAST_VOLUME - 32766, false);
        tree.put(0, 32768, 255, 0x010203, true);
        tree.put(0, 40000, 256, 0x010203, true);
        tree.put(0, 65535, 1, LAST_VOLUME, false);
        bytes("leaf", tree, 1, 1024, 0x0A, 0xF3, 5, 0, 6, 0, 0, 0, 0, 0, 0, 0,
                0, 0, 0, 0, 1, 0, 0, 0, 1, 0, 0, 0,
                1, 0, 0, 0, 255, 255, 0, 0, 0x02, 0x80, 0xFF, 0,
                0, 128, 0, 0, 255, 0, 0, 0, 3, 2, 1, 0,
                0x40, 0x9C, 0, 0, 0, 1, 0, 0, 3, 2, 1, 0,
                255, 255, 0, 0, 1, 128, 0, 0, 0, 0, 0, 1);
        bytes("root", tree, 0, 60, 0x0A, 0xF3, 1, 0, 4, 0, 1, 0, 0, 0, 0, 0,
                0, 0, 0, 0, 1);
    }

    /** "Then from 12 on its entries, of 12 bytes each": 84 of them end at byte 1019. */
    private void fullBlockBytes() {
        for (int runs : new int[] {83, 84}) {
            ExtentTree tree = new ExtentTree(84);
            for (int i = 0; i < runs; i++) {
                tree.put(0, 700 * i, 257, LAST_VOLUME - 256, false);
            }
            int[] due = new int[1024];
            int[] head = {0x0A, 0xF3, runs, 0, 84};
            System.arraycopy(head, 0, due, 0, head.length);
            for (int i = 0; i < runs; i++) {
                int[] entry = {700 * i & 255, 700 * i >> 8, 0, 0, 1, 129, 0, 0, 0, 255, 255, 0};
                System.arraycopy(entry, 0, due, 12 + 12 * i, 12);
            }
            bytes("block of " + runs, tree, 1, 1024, due);
        }
    }

    /** "In others, for each node below, the first file block .. in it, 4 (4) its block." */
    private void bytesAboveALeaf() {
        ExtentTree tree = Shapes.tens(5, 1);
        checks.is("one is left", Shapes.leaveFree(tree, 1), true);
        tree.put(0, 300, 1, 7, true);
        tree.spread(0, 301, 1, 2, 9);
        tree.punch(0, 10, 1);
        tree.put(0, 299, 1, 3, true);
        tree.put(0, 298, 1, 1, true);
        bytes("root above block 255", tree, 0, 60, 0x0A, 0xF3, 1, 0, 4, 0, 1, 0, 0, 0, 0, 0,
                42, 1, 0, 0, 255, 0, 0, 0, 0, 0, 0, 0);
        ExtentTree two = Shapes.tens(5, 17);
        bytes("root of depth 2", two, 0, 60, 0x0A, 0xF3, 1, 0, 4, 0, 2, 0, 0, 0, 0, 0,
                10, 0, 0, 0, 6, 0, 0, 0);
        bytes("a full node", two, 6, 1024, 0x0A, 0xF3, 5, 0, 5, 0, 1, 0, 0, 0, 0, 0,
                10, 0, 0, 0, 1, 0, 0, 0, 0, 0, 0, 0, 40, 0, 0, 0, 2, 0, 0, 0, 0, 0, 0, 0,
                70, 0, 0, 0, 3, 0, 0, 0, 0, 0, 0, 0, 100, 0, 0, 0, 4, 0, 0, 0, 0, 0, 0, 0,
                130, 0, 0, 0, 5, 0, 0, 0, 0, 0, 0, 0);
    }

    /** "All other bytes are 0", where entries were before. */
    private void noOldBytes() {
        ExtentTree tree = Shapes.tens(5, 4);
        tree.punch(0, 20, 21);
        bytes("root", tree, 0, 60, 0x0A, 0xF3, 1, 0, 4, 0, 0, 0, 0, 0, 0, 0,
                10, 0, 0, 0, 1, 0, 0, 0, 101);
        tree = Shapes.tens(5, 6);
        bytes("split", tree, 1, 1024, 0x0A, 0xF3, 3, 0, 5, 0, 0, 0, 0, 0, 0, 0,
                10, 0, 0, 0, 1, 0, 0, 0, 101, 0, 0, 0, 20, 0, 0, 0, 1, 0, 0, 0, 103, 0, 0, 0,
                30, 0, 0, 0, 1, 0, 0, 0, 105);
        tree = Shapes.tens(5, 5);
        bytes("grown", tree, 0, 60, 0x0A, 0xF3, 1, 0, 4, 0, 1, 0, 0, 0, 0, 0,
                10, 0, 0, 0, 1);
        tree = Shapes.tens(5, 15);
        tree.punch(0, 0, 65536);
        tree.spread(0, 10, 10, 4, 101);
        tree.put(0, 50, 1, 109, true);
        bytes("taken again", tree, 1, 1024, 0x0A, 0xF3, 5, 0, 5, 0, 0, 0, 0, 0, 0, 0,
                10, 0, 0, 0, 1, 0, 0, 0, 101, 0, 0, 0, 20, 0, 0, 0, 1, 0, 0, 0, 103, 0, 0, 0,
                30, 0, 0, 0, 1, 0, 0, 0, 105, 0, 0, 0, 40, 0, 0, 0, 1, 0, 0, 0, 107, 0, 0, 0,
                50, 0, 0, 0, 1, 0, 0, 0, 109);
    }

    /** "In ascending order"; "of a depth less by one"; "no block has no entry". */
    private void wellFormed() {
        for (int m : new int[] {5, 6, 7, 10}) {
            ExtentTree tree = new ExtentTree(m);
            tree.spread(0, 3, 40, 150, 7);
            walk("spread", tree);
            tree.spread(0, 5, 30, 90, 7);
            walk("spread between", tree);
            tree.strip(0, 3, 80, 60);
            walk("strip", tree);
            tree.punch(0, 500, 900);
            walk("punch", tree);
            tree.put(0, 501, 800, 7, false);
            tree.write(0, 700, 10);
            tree.write(0, 600, 10);
            walk("write", tree);
            tree.strip(0, 502, 3, 250);
            walk("strip of one run", tree);
            tree.strip(0, 43, 7, 1000);
            walk("strip of many", tree);
        }
        walk("deep", Shapes.deep(5, 4));
    }

    private void walk(String what, ExtentTree tree) {
        int[] blocksAndRuns = new int[3];
        walk(what, tree, 0, blocksAndRuns);
        checks.is(what + ": blocks", 255 - tree.free(), blocksAndRuns[0]);
        checks.is(what + ": blocks told", tree.count(0, 2), blocksAndRuns[0]);
        checks.is(what + ": runs told", tree.count(0, 0), blocksAndRuns[1]);
        checks.is(what + ": leaves told", tree.count(0, 5), blocksAndRuns[2]);
    }

    private void walk(String what, ExtentTree tree, int block, int[] seen) {
        int entries = Told.entries(tree, block);
        int depth = Told.depth(tree, block);
        checks.is(what + ": no more than may be", entries <= Told.number(tree, block, 4, 2), true);
        checks.is(what + ": none without", entries >= 1 || block == 0, true);
        seen[0] += block == 0 ? 0 : 1;
        seen[1] += depth == 0 ? entries : 0;
        seen[2] += depth == 0 ? 1 : 0;
        int before = -1;
        for (int i = 0; i < entries; i++) {
            int first = Told.number(tree, block, 12 + 12 * i, 4);
            checks.is(what + ": ascending", first > before, true);
            before = first;
            if (depth > 0) {
                int next = Told.below(tree, block, i);
                checks.is(what + ": less by one", Told.depth(tree, next), depth - 1);
                checks.is(what + ": first in it", Told.number(tree, next, 12, 4), first);
                walk(what, tree, next, seen);
            }
        }
    }
}
