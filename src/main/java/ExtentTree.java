/**
 * The maps of four files from their blocks to a volume's, each kept as a tree of runs in the
 * published on-disk form. shared/DOC.md says what each call does.
 */
public final class ExtentTree {
    private static final int FILES = 4;
    private static final int FILE_BLOCKS = 65536;
    private static final int VOLUME_BLOCKS = 16777216;
    private static final int LONGEST_WRITTEN = 32768;
    private static final int LONGEST_UNWRITTEN = 32767;
    private static final int UNWRITTEN_MARK = 32768;
    private static final int MOST_STEPS = 2000;

    private static final int POOL_NUMBERS = 256;
    private static final int BLOCK_BYTES = 1024;
    private static final int ROOT_BYTES = 60;
    private static final int ROOT_ROOM = 4;
    private static final int LEAST_ROOM = 5;
    private static final int MOST_ROOM = 84;
    private static final int MOST_DEPTH = 5;
    private static final int LEVELS = MOST_DEPTH + 1;
    private static final int MAGIC = 62218;
    private static final int HEAD_WORDS = 3;
    private static final int ENTRY_WORDS = 3;

    private final Pool pool;
    private final Tree[] trees;

    public ExtentTree(int m) {
        pool = new Pool(Math.max(LEAST_ROOM, Math.min(MOST_ROOM, m)));
        trees = new Tree[FILES];
        for (int file = 0; file < FILES; file++) {
            trees[file] = new Tree(pool);
        }
    }

    public int put(int file, int first, int length, int volume, boolean written)
            throws IllegalArgumentException, IllegalStateException, UnsupportedOperationException {
        if (!isFile(file) || !areFileBlocks(first, length) || length > longest(written)
                || !areVolumeBlocks(volume, length)) {
            throw new IllegalArgumentException("no such file, file blocks, volume blocks or run");
        }
        Tree tree = trees[file];
        if (tree.hasAny(first, length)) {
            throw new IllegalStateException("a file block is in a run already");
        }
        if (!tree.roomForOne()) {
            throw new UnsupportedOperationException("too few free blocks, or too deep");
        }
        tree.putIn(first, length, volume, written);
        tree.settle();
        return tree.runs;
    }

    public int spread(int file, int first, int step, int many, int volume)
            throws IllegalArgumentException {
        if (!isFile(file) || !isSeries(first, step, many)
                || !areVolumeBlocks(volume, 2 * many - 1)) {
            throw new IllegalArgumentException("no such file, file blocks, volume blocks or steps");
        }
        Tree tree = trees[file];
        for (int i = 0; i < many; i++) {
            int block = first + i * step;
            if (tree.hasAny(block, 1) || !tree.roomForOne()) {
                return i;
            }
            tree.putIn(block, 1, volume + 2 * i, true);
            tree.settle();
        }
        return many;
    }

    public int punch(int file, int first, int length)
            throws IllegalArgumentException, UnsupportedOperationException {
        if (!isFile(file) || !areFileBlocks(first, length)) {
            throw new IllegalArgumentException("no such file or file blocks");
        }
        Tree tree = trees[file];
        if (!tree.roomForOne()) {
            throw new UnsupportedOperationException("too few free blocks, or too deep");
        }
        int out = tree.takeOutAll(first, first + length);
        tree.settle();
        return out;
    }

    public int strip(int file, int first, int step, int many) throws IllegalArgumentException {
        if (!isFile(file) || !isSeries(first, step, many)) {
            throw new IllegalArgumentException("no such file, file blocks or steps");
        }
        Tree tree = trees[file];
        int out = 0;
        for (int i = 0; i < many && tree.roomForOne(); i++) {
            int block = first + i * step;
            out += tree.takeOutAll(block, block + 1);
            tree.settle();
        }
        return out;
    }

    public int write(int file, int first, int length)
            throws IllegalArgumentException, IllegalStateException, UnsupportedOperationException {
        if (!isFile(file) || !areFileBlocks(first, length)) {
            throw new IllegalArgumentException("no such file or file blocks");
        }
        Tree tree = trees[file];
        if (!tree.hasUnwritten(first, length)) {
            throw new IllegalStateException("not all in one run that is not yet written");
        }
        if (!tree.roomForTwo()) {
            throw new UnsupportedOperationException("too few free blocks, or too deep");
        }
        int volume = tree.volumeOf(first);
        tree.takeOutAll(first, first + length);
        tree.putIn(first, length, volume, true);
        tree.settle();
        return tree.runs;
    }

    public int look(int file, int block) throws IllegalArgumentException {
        if (!isFile(file) || !areFileBlocks(block, 1)) {
            throw new IllegalArgumentException("no such file or file block");
        }
        return trees[file].volumeOf(block);
    }

    public boolean written(int file, int block) throws IllegalArgumentException {
        if (!isFile(file) || !areFileBlocks(block, 1)) {
            throw new IllegalArgumentException("no such file or file block");
        }
        return trees[file].isWritten(block);
    }

    public int reach(int file, int block) throws IllegalArgumentException {
        if (!isFile(file) || !areFileBlocks(block, 1)) {
            throw new IllegalArgumentException("no such file or file block");
        }
        return trees[file].alikeFrom(block);
    }

    public int count(int file, int what) throws IllegalArgumentException {
        if (!isFile(file) || what < 0 || what > 5) {
            throw new IllegalArgumentException("no such file or number");
        }
        Tree tree = trees[file];
        switch (what) {
            case 0:
                return tree.runs;
            case 1:
                return tree.root.depth;
            case 2:
                return tree.blocks;
            case 3:
                return tree.mapped;
            case 4:
                return tree.mappedWritten;
            default:
                return tree.leaves();
        }
    }

    public int free() {
        return pool.left;
    }

    public int rootByte(int file, int i)
            throws IllegalArgumentException, IndexOutOfBoundsException {
        if (!isFile(file)) {
            throw new IllegalArgumentException("no such file");
        }
        if (i < 0 || i >= ROOT_BYTES) {
            throw new IndexOutOfBoundsException("no such byte of a root");
        }
        return trees[file].root.byteAt(i);
    }

    public int nodeByte(int block, int i) throws IndexOutOfBoundsException {
        if (!pool.isTaken(block) || i < 0 || i >= BLOCK_BYTES) {
            throw new IndexOutOfBoundsException("no such byte of a block that is taken");
        }
        return pool.node(block).byteAt(i);
    }

    private static boolean isFile(int file) {
        return file >= 0 && file < FILES;
    }

    // What is left is compared, not the sum: the sum of two such ints may wrap around.
    private static boolean areFileBlocks(int first, int length) {
        return first >= 0 && first < FILE_BLOCKS && length >= 1 && length <= FILE_BLOCKS - first;
    }

    private static boolean areVolumeBlocks(int volume, int length) {
        return volume >= 1 && volume <= VOLUME_BLOCKS && length <= VOLUME_BLOCKS - volume + 1;
    }

    private static boolean isSeries(int first, int step, int many) {
        return step >= 1 && step <= MOST_STEPS && many >= 1 && many <= MOST_STEPS
                && areFileBlocks(first, (many - 1) * step + 1);
    }

    private static int longest(boolean written) {
        return written ? LONGEST_WRITTEN : LONGEST_UNWRITTEN;
    }

    /**
     * A root or a block of the pool. An entry is three words, which are its 12 bytes: in a leaf
     * the first file block, the length with its mark, the first volume block; in others the first
     * file block, the number of the block below, 0.
     */
    private static final class Node {
        final int number;
        final int room;
        boolean taken;
        int depth;
        int entries;
        private final int[] words;

        Node(int number, int room) {
            this.number = number;
            this.room = Math.max(ROOT_ROOM, Math.min(MOST_ROOM, room));
            this.words = new int[this.room * ENTRY_WORDS];
        }

        boolean isFull() {
            return entries >= room;
        }

        boolean hasEntry(int place) {
            return place >= 0 && place < entries && place < room;
        }

        // No entry reads as zeros: a run of length 0, which has no block and joins with none.
        private int word(int place, int which) {
            return hasEntry(place) ? words[place * ENTRY_WORDS + which] : 0;
        }

        int firstAt(int place) {
            return word(place, 0);
        }

        int belowAt(int place) {
            return word(place, 1);
        }

        int lengthAt(int place) {
            int length = word(place, 1);
            return length > LONGEST_WRITTEN ? length - UNWRITTEN_MARK : length;
        }

        boolean isWrittenAt(int place) {
            return hasEntry(place) && word(place, 1) <= LONGEST_WRITTEN;
        }

        int volumeAt(int place) {
            return word(place, 2);
        }

        void setFirst(int place, int first) {
            if (hasEntry(place)) {
                words[place * ENTRY_WORDS] = first;
            }
        }

        void setEntry(int place, int first, int second, int third) {
            if (hasEntry(place)) {
                int at = place * ENTRY_WORDS;
                words[at] = first;
                words[at + 1] = second;
                words[at + 2] = third;
            }
        }

        /** The place of the last entry that begins at a file block or before it, or -1. */
        int lastUpTo(int block) {
            int low = 0;
            int high = entries;
            while (low < high) {
                int middle = (low + high) / 2;
                if (firstAt(middle) <= block) {
                    low = middle + 1;
                } else {
                    high = middle;
                }
            }
            return low - 1;
        }

        void insert(int place, int first, int second, int third) {
            if (isFull() || place < 0 || place > entries) {
                return;
            }
            int at = place * ENTRY_WORDS;
            int behind = (entries - place) * ENTRY_WORDS;
            System.arraycopy(words, at, words, at + ENTRY_WORDS, behind);
            entries++;
            setEntry(place, first, second, third);
        }

        void remove(int place) {
            if (!hasEntry(place)) {
                return;
            }
            int at = place * ENTRY_WORDS;
            int behind = (entries - place - 1) * ENTRY_WORDS;
            System.arraycopy(words, at + ENTRY_WORDS, words, at, behind);
            entries--;
        }

        /** All that the other node has then are the entries from a place on, and the depth. */
        void moveTail(int from, Node to) {
            int many = entries - from;
            if (from < 0 || many < 0 || many > to.room) {
                return;
            }
            System.arraycopy(words, from * ENTRY_WORDS, to.words, 0, many * ENTRY_WORDS);
            to.entries = many;
            to.depth = depth;
            entries = from;
        }

        int byteAt(int i) {
            int shift = (i & 3) * 8;
            return (wordOfBytes(i / 4) >>> shift) & 255;
        }

        // What is left in the words behind the last entry is not told.
        private int wordOfBytes(int which) {
            if (which == 0) {
                return MAGIC | entries << 16;
            }
            if (which == 1) {
                return room | depth << 16;
            }
            int at = which - HEAD_WORDS;
            return at >= 0 && at < entries * ENTRY_WORDS && at < words.length ? words[at] : 0;
        }
    }

    /** The blocks 1 .. 255. A node 0 stands with them, never used, so that each number has one. */
    private static final class Pool {
        int left;
        private final Node[] nodes;

        Pool(int room) {
            left = POOL_NUMBERS - 1;
            nodes = new Node[POOL_NUMBERS];
            for (int number = 0; number < POOL_NUMBERS; number++) {
                nodes[number] = new Node(number, room);
            }
        }

        Node node(int number) {
            return number >= 0 && number < POOL_NUMBERS ? nodes[number] : nodes[0];
        }

        boolean isTaken(int number) {
            return node(number).taken;
        }

        Node takeLeast() {
            for (int number = 1; number < POOL_NUMBERS; number++) {
                Node node = nodes[number];
                if (!node.taken) {
                    node.taken = true;
                    left--;
                    return node;
                }
            }
            return nodes[0];
        }

        void giveBack(Node node) {
            if (node.taken) {
                node.taken = false;
                node.entries = 0;
                left++;
            }
        }
    }

    /** The runs of one file. */
    private static final class Tree {
        final Node root;
        int runs;
        int blocks;
        int mapped;
        int mappedWritten;
        private int leafBlocks;
        private final Pool pool;

        // The way that find() went last: the nodes from the root (0) to a leaf, and in each the
        // place of the entry that it chose.
        private final Node[] way;
        private final int[] place;
        private int leaf;

        // The block that is taken for each node of the way that has no room.
        private final Node[] fresh;

        Tree(Pool pool) {
            this.pool = pool;
            root = new Node(0, ROOT_ROOM);
            way = new Node[LEVELS];
            place = new int[LEVELS];
            fresh = new Node[LEVELS];
            for (int level = 0; level < LEVELS; level++) {
                way[level] = root;
                fresh[level] = root;
            }
        }

        int leaves() {
            return root.depth == 0 ? 1 : leafBlocks;
        }

        boolean roomForOne() {
            return pool.left >= root.depth + 1 && !(root.depth >= MOST_DEPTH && root.isFull());
        }

        boolean roomForTwo() {
            return pool.left >= 2 * root.depth + 3
                    && !(root.depth >= MOST_DEPTH - 1 && root.isFull());
        }

        /** Goes to the last run that begins at a file block or before it, or before the first. */
        private void find(int block) {
            Node node = root;
            for (int level = 0; level < LEVELS; level++) {
                int chosen = node.lastUpTo(block);
                way[level] = node;
                place[level] = chosen;
                leaf = level;
                if (node.depth == 0) {
                    return;
                }
                place[level] = Math.max(0, chosen);
                node = pool.node(node.belowAt(place[level]));
            }
        }

        private int runFirst() {
            return way[leaf].firstAt(place[leaf]);
        }

        private int runLength() {
            return way[leaf].lengthAt(place[leaf]);
        }

        private int runEnd() {
            return runFirst() + runLength();
        }

        private int runVolume() {
            return way[leaf].volumeAt(place[leaf]);
        }

        private boolean runIsWritten() {
            return way[leaf].isWrittenAt(place[leaf]);
        }

        private void setRun(int first, int length, int volume, boolean written) {
            way[leaf].setEntry(place[leaf], first, marked(length, written), volume);
            refreshFirsts(leaf);
        }

        private static int marked(int length, boolean written) {
            return written ? length : length + UNWRITTEN_MARK;
        }

        /** The first file block of the run behind the found one, or the end of the file. */
        private int nextFirst() {
            for (int level = leaf; level >= 0; level--) {
                int next = place[level] + 1;
                if (way[level].hasEntry(next)) {
                    return way[level].firstAt(next);
                }
            }
            return FILE_BLOCKS;
        }

        boolean hasAny(int first, int length) {
            find(first + length - 1);
            return runEnd() > first;
        }

        boolean hasUnwritten(int first, int length) {
            find(first);
            return runEnd() >= first + length && !runIsWritten();
        }

        int volumeOf(int block) {
            find(block);
            return runEnd() > block ? runVolume() + (block - runFirst()) : -1;
        }

        boolean isWritten(int block) {
            find(block);
            return runEnd() > block && runIsWritten();
        }

        int alikeFrom(int block) {
            find(block);
            return (runEnd() > block ? runEnd() : nextFirst()) - block;
        }

        void putIn(int first, int length, int volume, boolean written) {
            countMapped(length, written);
            int before = lengthToJoinBefore(first, length, volume, written);
            int behind = lengthToJoinBehind(first, length, volume, written, before);
            if (before == 0 && behind > 0) {
                setRun(first, length + behind, volume, written);
                return;
            }
            if (behind > 0) {
                removeRun();
            }
            find(first);
            if (before > 0) {
                setRun(runFirst(), before + length + behind, runVolume(), written);
            } else {
                insertRun(first, length, volume, written);
            }
        }

        /** The length of the run right before a new one, if the two can be one; else 0. */
        private int lengthToJoinBefore(int first, int length, int volume, boolean written) {
            find(first);
            int before = runLength();
            boolean meets = before > 0 && runEnd() == first && runVolume() + before == volume;
            return meets && runIsWritten() == written && before + length <= longest(written)
                    ? before : 0;
        }

        /** Likewise of the run right behind, which is the found one after this. */
        private int lengthToJoinBehind(int first, int length, int volume, boolean written,
                int before) {
            find(first + length);
            int behind = runLength();
            boolean meets = behind > 0 && runFirst() == first + length
                    && runVolume() == volume + length;
            return meets && runIsWritten() == written
                    && before + length + behind <= longest(written) ? behind : 0;
        }

        /** Takes the file blocks out that lie before an end: how many were in runs. */
        int takeOutAll(int first, int end) {
            int out = 0;
            int at = first;
            for (int turn = 0; turn < FILE_BLOCKS && at < end; turn++) {
                find(at);
                if (runEnd() <= at) {
                    at = nextFirst();
                } else {
                    int many = Math.min(end, runEnd()) - at;
                    takeOutOfRun(at, many);
                    out += many;
                    at += many;
                }
            }
            return out;
        }

        /** Takes file blocks, all of them in the run found, out of it. */
        private void takeOutOfRun(int from, int many) {
            boolean written = runIsWritten();
            int before = from - runFirst();
            int behind = runEnd() - from - many;
            int volume = runVolume();
            int volumeBehind = volume + before + many;
            countMapped(-many, written);
            if (before == 0 && behind == 0) {
                removeRun();
            } else if (before == 0) {
                setRun(from + many, behind, volumeBehind, written);
            } else {
                setRun(runFirst(), before, volume, written);
                if (behind > 0) {
                    insertRun(from + many, behind, volumeBehind, written);
                }
            }
        }

        private void countMapped(int by, boolean written) {
            mapped += by;
            if (written) {
                mappedWritten += by;
            }
        }

        /** A new entry comes right behind the run found, or first where none was found. */
        private void insertRun(int first, int length, int volume, boolean written) {
            int roomy = levelWithRoom();
            // Never so: the calls refuse what could need a root deeper than the deepest.
            if (roomy < 0 && leaf + 1 >= LEVELS) {
                return;
            }
            for (int level = leaf; level > roomy; level--) {
                fresh[level] = pool.takeLeast();
            }
            if (roomy < 0) {
                growRoot();
                roomy = 1;
            }
            for (int level = roomy + 1; level <= leaf; level++) {
                splitBlock(level);
            }
            way[leaf].insert(place[leaf] + 1, first, marked(length, written), volume);
            refreshFirsts(leaf);
            runs++;
        }

        /** The lowest level of the way with room for an entry, or -1. */
        private int levelWithRoom() {
            int level = leaf;
            while (level >= 0 && way[level].isFull()) {
                level--;
            }
            return level;
        }

        // The way is longer by one then: the new block, which has room, is on it behind the root.
        private void growRoot() {
            Node block = fresh[0];
            root.moveTail(0, block);
            countBlock(block, 1);
            root.depth = block.depth + 1;
            root.insert(0, block.firstAt(0), block.number, 0);
            for (int level = leaf; level > 0; level--) {
                way[level + 1] = way[level];
                place[level + 1] = place[level];
                fresh[level + 1] = fresh[level];
            }
            way[1] = block;
            place[1] = place[0];
            place[0] = 0;
            leaf++;
        }

        // Keeps the way on the half that the entry from below, or the new run, comes into.
        private void splitBlock(int level) {
            Node old = way[level];
            Node block = fresh[level];
            int half = (old.room + 1) / 2;
            old.moveTail(half, block);
            countBlock(block, 1);
            way[level - 1].insert(place[level - 1] + 1, block.firstAt(0), block.number, 0);
            if (place[level] + 1 > half) {
                way[level] = block;
                place[level] -= half;
                place[level - 1]++;
            }
        }

        /** The entry of the run found goes. */
        private void removeRun() {
            int level = leaf;
            way[level].remove(place[level]);
            while (level > 0 && way[level].entries == 0) {
                giveBack(way[level]);
                level--;
                way[level].remove(place[level]);
            }
            if (root.entries == 0) {
                root.depth = 0;
            }
            refreshFirsts(level);
            runs--;
        }

        // Above a node is told where it begins, so a change at its front is a change in them too.
        private void refreshFirsts(int from) {
            for (int level = from; level > 0; level--) {
                way[level - 1].setFirst(place[level - 1], way[level].firstAt(0));
            }
        }

        /** What is done at the end of a call that changes the file. */
        void settle() {
            for (int depth = root.depth; depth > 0 && root.entries == 1; depth--) {
                Node only = pool.node(root.belowAt(0));
                if (only.entries > root.room) {
                    return;
                }
                only.moveTail(0, root);
                giveBack(only);
            }
        }

        private void giveBack(Node block) {
            countBlock(block, -1);
            pool.giveBack(block);
        }

        private void countBlock(Node block, int by) {
            blocks += by;
            if (block.depth == 0) {
                leafBlocks += by;
            }
        }
    }
}
