import java.io.ByteArrayOutputStream;

/**
 * What an object tells of its nodes, read byte by byte. Block 0 stands for the root of file 0.
 * The class does not count its calls, so that reading may go far beyond an object's 512.
 */
final class Told {
    private Told() {
    }

    static int number(ExtentTree tree, int block, int at, int size) {
        int value = 0;
        for (int i = size - 1; i >= 0; i--) {
            int told = block == 0 ? tree.rootByte(0, at + i) : tree.nodeByte(block, at + i);
            value = value * 256 + told;
        }
        return value;
    }

    static int entries(ExtentTree tree, int block) {
        return number(tree, block, 2, 2);
    }

    static int depth(ExtentTree tree, int block) {
        return number(tree, block, 6, 2);
    }

    static int below(ExtentTree tree, int block, int entry) {
        return number(tree, block, 16 + 12 * entry, 4);
    }

    /** What is at 0 in each entry of a node. */
    static String firsts(ExtentTree tree, int block) {
        StringBuilder text = new StringBuilder();
        for (int entry = 0; entry < entries(tree, block); entry++) {
            text.append(entry == 0 ? "" : " ").append(number(tree, block, 12 + 12 * entry, 4));
        }
        return text.toString();
    }

    /** The blocks right below a node. */
    static String below(ExtentTree tree, int block) {
        StringBuilder text = new StringBuilder();
        for (int entry = 0; entry < entries(tree, block); entry++) {
            text.append(entry == 0 ? "" : " ").append(below(tree, block, entry));
        }
        return text.toString();
    }

    /** The runs of a file, each as its first file block, its length, its volume block, + or -. */
    static String runs(ExtentTree tree, int file) {
        StringBuilder text = new StringBuilder();
        int block = 0;
        while (block < 65536) {
            int volume = tree.look(file, block);
            int reach = tree.reach(file, block);
            if (volume >= 0) {
                text.append(text.length() == 0 ? "" : " ").append(block).append(':').append(reach);
                text.append('@').append(volume).append(tree.written(file, block) ? '+' : '-');
            }
            block += Math.max(1, reach);
        }
        return text.toString();
    }

    static boolean isTaken(ExtentTree tree, int block) {
        try {
            tree.nodeByte(block, 0);
            return true;
        } catch (IndexOutOfBoundsException e) {
            return false;
        }
    }

    /** All numbers and all bytes that an object tells. */
    static byte[] everything(ExtentTree tree) {
        ByteArrayOutputStream all = new ByteArrayOutputStream();
        all.write(tree.free());
        for (int file = 0; file < 4; file++) {
            for (int what = 0; what < 6; what++) {
                int number = tree.count(file, what);
                all.write(number >> 16);
                all.write(number >> 8);
                all.write(number);
            }
            for (int i = 0; i < 60; i++) {
                all.write(tree.rootByte(file, i));
            }
        }
        for (int block = 1; block <= 255; block++) {
            boolean taken = isTaken(tree, block);
            all.write(taken ? 1 : 0);
            for (int i = 0; taken && i < 1024; i++) {
                all.write(tree.nodeByte(block, i));
            }
        }
        return all.toByteArray();
    }
}
