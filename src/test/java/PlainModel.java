import java.util.ArrayList;
import java.util.List;
import java.util.TreeSet;

/**
 * The document's words as plainly as may be: nodes that hold lists, runs looked up one by one,
 * numbers counted anew at each question. It shares no code with the class, but it reads the
 * document as the class does: where that reading is wrong, both are.
 */
final class PlainModel {
    private static final int END = 65536;
    private static final int LAST_VOLUME = 1 << 24;

    private static final class Run {
        int first;
        int length;
        int volume;
        boolean written;

        Run(int first, int length, int volume, boolean written) {
            this.first = first;
            this.length = length;
            this.volume = volume;
            this.written = written;
        }

        int end() {
            return first + length;
        }

        boolean has(int block) {
            return first <= block && block < end();
        }

        boolean canBeOneWith(Run next) {
            int most = written ? 32768 : 32767;
            return end() == next.first && volume + length == next.volume
                    && written == next.written && length + next.length <= most;
        }
    }

    private static final class Node {
        int number;
        int depth;
        Node above;
        final List<Run> runs = new ArrayList<>();
        final List<Node> below = new ArrayList<>();

        int entries() {
            return depth == 0 ? runs.size() : below.size();
        }

        Run firstRun() {
            return depth == 0 ? runs.get(0) : below.get(0).firstRun();
        }

        /** Gives another node the entries from a place on. */
        void hand(int from, Node to) {
            to.depth = depth;
            if (depth == 0) {
                List<Run> tail = runs.subList(from, runs.size());
                to.runs.addAll(tail);
                tail.clear();
            } else {
                List<Node> tail = below.subList(from, below.size());
                to.below.addAll(tail);
                tail.clear();
                for (Node node : to.below) {
                    node.above = to;
                }
            }
        }
    }

    private final int m;
    private final Node[] roots = new Node[4];
    private final Node[] pool = new Node[256];
    private final TreeSet<Integer> free = new TreeSet<>();

    PlainModel(int m) {
        this.m = m < 5 ? 5 : m > 84 ? 84 : m;
        for (int file = 0; file < 4; file++) {
            roots[file] = new Node();
        }
        for (int number = 1; number <= 255; number++) {
            free.add(number);
        }
    }

    private Node take() {
        Node node = new Node();
        node.number = free.pollFirst();
        pool[node.number] = node;
        return node;
    }

    private void giveBack(Node node) {
        pool[node.number] = null;
        free.add(node.number);
    }

    private static void nodesBelow(Node node, List<Node> all) {
        all.add(node);
        for (Node next : node.below) {
            nodesBelow(next, all);
        }
    }

    private List<Node> nodes(int file) {
        List<Node> all = new ArrayList<>();
        nodesBelow(roots[file], all);
        return all;
    }

    private List<Run> runs(int file) {
        List<Run> all = new ArrayList<>();
        for (Node node : nodes(file)) {
            all.addAll(node.runs);
        }
        return all;
    }

    private Run runAt(int file, int block) {
        for (Run run : runs(file)) {
            if (run.has(block)) {
                return run;
            }
        }
        return null;
    }

    private Node leafOf(int file, Run run) {
        for (Node node : nodes(file)) {
            for (Run other : node.runs) {
                if (other == run) {
                    return node;
                }
            }
        }
        throw new AssertionError("a run without a leaf");
    }

    private Node firstLeaf(int file) {
        Node node = roots[file];
        while (node.depth > 0) {
            node = node.below.get(0);
        }
        return node;
    }

    private void newEntry(Node leaf, int k, Run run) {
        List<Node> full = new ArrayList<>();
        for (Node node = leaf; node != null; node = node.above) {
            if (node.entries() < (node.number == 0 ? 4 : m)) {
                break;
            }
            full.add(node);
        }
        List<Node> taken = new ArrayList<>();
        for (int i = 0; i < full.size(); i++) {
            taken.add(take());
        }
        int last = full.size() - 1;
        Node home = leaf;
        int place = k;
        if (last >= 0 && full.get(last).number == 0) {
            Node root = full.get(last);
            Node block = taken.get(last);
            root.hand(0, block);
            root.depth++;
            root.below.add(block);
            block.above = root;
            if (root == leaf) {
                home = block;
            }
            last--;
        }
        int h = (m + 1) / 2;
        for (int i = last; i >= 0; i--) {
            Node old = full.get(i);
            Node block = taken.get(i);
            old.hand(h, block);
            block.above = old.above;
            old.above.below.add(old.above.below.indexOf(old) + 1, block);
            if (old == leaf && k > h) {
                home = block;
                place = k - h;
            }
        }
        home.runs.add(place, run);
    }

    private void go(int file, Run run) {
        Node node = leafOf(file, run);
        node.runs.remove(run);
        while (node.above != null && node.entries() == 0) {
            giveBack(node);
            node.above.below.remove(node);
            node = node.above;
        }
        if (roots[file].entries() == 0) {
            roots[file].depth = 0;
        }
    }

    private void putIn(int file, Run added) {
        Run before = null;
        Run behind = null;
        for (Run run : runs(file)) {
            if (run.first < added.first) {
                before = run;
            } else if (behind == null) {
                behind = run;
            }
        }
        boolean joined = before != null && before.canBeOneWith(added);
        if (joined) {
            before.length += added.length;
        }
        Run now = joined ? before : added;
        if (behind != null && now.canBeOneWith(behind)) {
            if (joined) {
                before.length += behind.length;
                go(file, behind);
            } else {
                behind.first = added.first;
                behind.volume = added.volume;
                behind.length += added.length;
            }
        } else if (!joined && before == null) {
            newEntry(firstLeaf(file), 0, added);
        } else if (!joined) {
            Node leaf = leafOf(file, before);
            newEntry(leaf, leaf.runs.indexOf(before) + 1, added);
        }
    }

    private int takeOut(int file, int from, int to) {
        int out = 0;
        for (Run run : runs(file)) {
            int low = Math.max(run.first, from);
            int high = Math.min(run.end(), to);
            if (low >= high) {
                continue;
            }
            out += high - low;
            int end = run.end();
            int volume = run.volume - run.first;
            if (low == run.first && high == end) {
                go(file, run);
            } else if (low == run.first) {
                run.first = high;
                run.volume = volume + high;
                run.length = end - high;
            } else {
                run.length = low - run.first;
                if (high < end) {
                    Node leaf = leafOf(file, run);
                    newEntry(leaf, leaf.runs.indexOf(run) + 1,
                            new Run(high, end - high, volume + high, run.written));
                }
            }
        }
        return out;
    }

    private void atTheEnd(int file) {
        Node root = roots[file];
        while (root.depth > 0 && root.entries() == 1 && root.below.get(0).entries() <= 4) {
            Node only = root.below.remove(0);
            giveBack(only);
            only.hand(0, root);
        }
    }

    private static void argue(boolean wrong) {
        if (wrong) {
            throw new IllegalArgumentException();
        }
    }

    private static void argueFile(int file) {
        argue(file < 0 || file > 3);
    }

    private static void argueBlocks(long first, long length) {
        argue(first < 0 || first >= END || length < 1 || first + length > END);
    }

    private static void argueVolume(long volume, long length) {
        argue(volume < 1 || volume + length - 1 > LAST_VOLUME);
    }

    private static void argueSteps(long first, long step, long many) {
        argue(step < 1 || step > 2000 || many < 1 || many > 2000);
        argueBlocks(first, (many - 1) * step + 1);
    }

    private boolean rootIsFull(int file) {
        return roots[file].entries() == 4;
    }

    private void needRoom(int file) {
        int depth = roots[file].depth;
        if (free.size() < depth + 1 || (depth == 5 && rootIsFull(file))) {
            throw new UnsupportedOperationException();
        }
    }

    int put(int file, int first, int length, int volume, boolean written) {
        argueFile(file);
        argueBlocks(first, length);
        argue(length > (written ? 32768 : 32767));
        argueVolume(volume, length);
        for (Run run : runs(file)) {
            if (run.first < first + length && first < run.end()) {
                throw new IllegalStateException();
            }
        }
        needRoom(file);
        putIn(file, new Run(first, length, volume, written));
        atTheEnd(file);
        return runs(file).size();
    }

    int spread(int file, int first, int step, int many, int volume) {
        argueFile(file);
        argueSteps(first, step, many);
        argueVolume(volume, 2L * many - 1);
        int done = 0;
        try {
            for (int i = 0; i < many; i++) {
                put(file, first + i * step, 1, volume + 2 * i, true);
                done++;
            }
        } catch (IllegalStateException | UnsupportedOperationException e) {
            return done;
        }
        return done;
    }

    int punch(int file, int first, int length) {
        argueFile(file);
        argueBlocks(first, length);
        needRoom(file);
        int out = takeOut(file, first, first + length);
        atTheEnd(file);
        return out;
    }

    int strip(int file, int first, int step, int many) {
        argueFile(file);
        argueSteps(first, step, many);
        int out = 0;
        try {
            for (int i = 0; i < many; i++) {
                out += punch(file, first + i * step, 1);
            }
        } catch (UnsupportedOperationException e) {
            return out;
        }
        return out;
    }

    int write(int file, int first, int length) {
        argueFile(file);
        argueBlocks(first, length);
        Run run = runAt(file, first);
        if (run == null || run.written || first + length > run.end()) {
            throw new IllegalStateException();
        }
        int depth = roots[file].depth;
        if (free.size() < 2 * depth + 3 || (depth >= 4 && rootIsFull(file))) {
            throw new UnsupportedOperationException();
        }
        Run added = new Run(first, length, run.volume + first - run.first, true);
        takeOut(file, first, first + length);
        putIn(file, added);
        atTheEnd(file);
        return runs(file).size();
    }

    int look(int file, int block) {
        argueFile(file);
        argueBlocks(block, 1);
        Run run = runAt(file, block);
        return run == null ? -1 : run.volume + block - run.first;
    }

    boolean written(int file, int block) {
        argueFile(file);
        argueBlocks(block, 1);
        Run run = runAt(file, block);
        return run != null && run.written;
    }

    int reach(int file, int block) {
        argueFile(file);
        argueBlocks(block, 1);
        Run run = runAt(file, block);
        if (run != null) {
            return run.end() - block;
        }
        int end = END;
        for (Run next : runs(file)) {
            if (next.first > block) {
                end = Math.min(end, next.first);
            }
        }
        return end - block;
    }

    int count(int file, int what) {
        argueFile(file);
        argue(what < 0 || what > 5);
        int leaves = 0;
        for (Node node : nodes(file)) {
            leaves += node.depth == 0 ? 1 : 0;
        }
        int mapped = 0;
        int mappedWritten = 0;
        for (Run run : runs(file)) {
            mapped += run.length;
            mappedWritten += run.written ? run.length : 0;
        }
        int[] numbers = {runs(file).size(), roots[file].depth, nodes(file).size() - 1, mapped,
            mappedWritten, leaves};
        return numbers[what];
    }

    int free() {
        return free.size();
    }

    private static void store(byte[] bytes, int at, int size, int value) {
        for (int i = 0; i < size; i++) {
            bytes[at + i] = (byte) (value >> 8 * i);
        }
    }

    private byte[] bytes(Node node) {
        byte[] bytes = new byte[node.number == 0 ? 60 : 1024];
        store(bytes, 0, 2, 62218);
        store(bytes, 2, 2, node.entries());
        store(bytes, 4, 2, node.number == 0 ? 4 : m);
        store(bytes, 6, 2, node.depth);
        int at = 12;
        for (Run run : node.runs) {
            store(bytes, at, 4, run.first);
            store(bytes, at + 4, 2, run.length + (run.written ? 0 : 32768));
            store(bytes, at + 8, 4, run.volume);
            at += 12;
        }
        for (Node next : node.below) {
            store(bytes, at, 4, next.firstRun().first);
            store(bytes, at + 4, 4, next.number);
            at += 12;
        }
        return bytes;
    }

    byte[] rootBytes(int file) {
        return bytes(roots[file]);
    }

    /** The bytes of a block, or null if it is not taken. */
    byte[] blockBytes(int number) {
        return pool[number] == null ? null : bytes(pool[number]);
    }
}
