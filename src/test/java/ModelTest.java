import java.util.Arrays;
import java.util.Random;
import java.util.function.Supplier;

/** Long series of calls on the class and on the plain model: the same answers, the same bytes. */
public final class ModelTest {
    private static final int CALLS = 512;
    private final Checks checks;
    private final Random dice;
    private final ExtentTree tree;
    private final PlainModel model;
    private final String name;
    // How far the series goes in the file: a small reach makes runs meet more often.
    private final int span;
    private final int files;

    private ModelTest(Checks checks, int seed, int m, int span, int files) {
        this.checks = checks;
        this.dice = new Random(seed);
        this.tree = new ExtentTree(m);
        this.model = new PlainModel(m);
        this.name = "series " + seed + ", m " + m + ", span " + span + ": ";
        this.span = span;
        this.files = files;
    }

    public static void main(String[] args) {
        Checks checks = new Checks();
        int[] rooms = {5, 6, 7, 8, 9, 16, 84};
        int[] spans = {40, 300, 1500, 65536};
        int seed = 1;
        for (int m : rooms) {
            for (int span : spans) {
                for (int kind = 0; kind < 8; kind++) {
                    int files = kind % 2 == 0 ? 1 : 4;
                    new ModelTest(checks, seed, m, span, files).series(kind / 2);
                    seed++;
                }
            }
        }
        for (int left = 90; left <= 330; left += 6) {
            new ModelTest(checks, seed, 5, 4 * left, 1).downwards(left);
            seed++;
        }
        checks.end("ModelTest");
    }

    private void series(int kind) {
        for (int call = 0; call < CALLS; call++) {
            String made = name + "call " + call + ", ";
            change(made, kind);
            if (dice.nextInt(4) == 0) {
                wrong(made);
            }
            ask(made);
            if (call % 16 == 0 || call > CALLS - 3) {
                bytes(made);
            }
        }
    }

    /** Runs put in from the back make the slimmest nodes, and so the deepest trees. */
    private void downwards(int many) {
        for (int left = many; left > 0; left--) {
            int first = 4 * left;
            boolean written = left % 3 == 0;
            same(name, "put " + first, () -> tree.put(0, first, 3, first, written),
                    () -> model.put(0, first, 3, first, written));
        }
        bytes(name);
        for (int call = many; call < CALLS; call++) {
            String made = name + "call " + call + ", ";
            change(made, call % 4);
            ask(made);
            if (call % 32 == 0) {
                bytes(made);
            }
        }
        bytes(name);
    }

    private static String answer(Supplier<Object> call) {
        try {
            return String.valueOf(call.get());
        } catch (RuntimeException e) {
            return "throws." + e.getClass().getSimpleName();
        }
    }

    private void same(String made, String call, Supplier<Object> got, Supplier<Object> due) {
        checks.is(made + call, answer(got), answer(due));
    }

    private int file() {
        return dice.nextInt(files);
    }

    private int block() {
        return dice.nextInt(span);
    }

    private int length() {
        int most = span > 2000 && dice.nextInt(3) == 0 ? 40000 : dice.nextInt(8) == 0 ? 60 : 4;
        return 1 + dice.nextInt(most);
    }

    private void change(String made, int kind) {
        int roll = dice.nextInt(100);
        boolean growing = kind == 0 || (kind == 1 && dice.nextBoolean());
        if (roll < (growing ? 60 : 35)) {
            put(made);
        } else if (roll < (growing ? 64 : 50)) {
            punch(made);
        } else if (roll < 85) {
            write(made);
        } else if (roll < (kind == 3 ? 94 : 87)) {
            spread(made);
        } else {
            strip(made, growing ? 3 : 60);
        }
    }

    private void put(String made) {
        int file = file();
        int first = block();
        int length = length();
        // One offset for most of the runs, so that many can be joined.
        int volume = dice.nextInt(6) == 0 ? 1 + dice.nextInt(9000) : first + 7;
        boolean written = dice.nextInt(3) == 0;
        same(made, "put(" + file + ", " + first + ", " + length + ", " + volume + ", " + written
                + ")", () -> tree.put(file, first, length, volume, written),
                () -> model.put(file, first, length, volume, written));
    }

    private void punch(String made) {
        int file = file();
        int first = block();
        int length = length();
        same(made, "punch(" + file + ", " + first + ", " + length + ")",
                () -> tree.punch(file, first, length), () -> model.punch(file, first, length));
    }

    private void write(String made) {
        int file = file();
        int start = block();
        // Nearly always a part of a run that is not yet written, if one is near.
        int first = start;
        for (int i = 0; i < 3 && model.look(file, first) < 0; i++) {
            first = Math.min(65535, first + model.reach(file, first));
        }
        int from = first;
        int most = model.reach(file, first);
        int length = dice.nextInt(3) == 0 ? most : 1 + dice.nextInt(most);
        same(made, "write(" + file + ", " + from + ", " + length + ")",
                () -> tree.write(file, from, length), () -> model.write(file, from, length));
    }

    private void spread(String made) {
        int file = file();
        int step = 1 + dice.nextInt(4);
        int many = 1 + dice.nextInt(90);
        int first = block();
        int volume = dice.nextBoolean() ? first + 7 : 1 + dice.nextInt(5000);
        same(made, "spread(" + file + ", " + first + ", " + step + ", " + many + ", " + volume
                + ")", () -> tree.spread(file, first, step, many, volume),
                () -> model.spread(file, first, step, many, volume));
    }

    private void strip(String made, int most) {
        int file = file();
        int step = 1 + dice.nextInt(4);
        int many = 1 + dice.nextInt(most);
        int first = block();
        same(made, "strip(" + file + ", " + first + ", " + step + ", " + many + ")",
                () -> tree.strip(file, first, step, many),
                () -> model.strip(file, first, step, many));
    }

    private int odd() {
        int[] odd = {Integer.MIN_VALUE, -1, 0, 1, 3, 4, 5, 2000, 2001, 32767, 32768, 32769, 65535,
            65536, 65537, 1 << 24, (1 << 24) + 1, Integer.MAX_VALUE};
        return odd[dice.nextInt(odd.length)];
    }

    private void wrong(String made) {
        int a = dice.nextInt(3) > 0 ? file() : odd();
        int b = odd();
        int c = odd();
        int d = odd();
        int e = odd();
        boolean f = dice.nextBoolean();
        String all = a + ", " + b + ", " + c + ", " + d + ", " + e + ", " + f;
        same(made, "put of " + all, () -> tree.put(a, b, c, d, f), () -> model.put(a, b, c, d, f));
        same(made, "spread of " + all, () -> tree.spread(a, b, c, d, e),
                () -> model.spread(a, b, c, d, e));
        same(made, "write of " + all, () -> tree.write(a, b, c), () -> model.write(a, b, c));
        same(made, "look of " + all, () -> tree.look(a, b), () -> model.look(a, b));
        same(made, "written of " + all, () -> tree.written(a, b), () -> model.written(a, b));
        same(made, "reach of " + all, () -> tree.reach(a, b), () -> model.reach(a, b));
        same(made, "count of " + all, () -> tree.count(a, b), () -> model.count(a, b));
        if (dice.nextInt(12) == 0) {
            same(made, "punch of " + all, () -> tree.punch(a, b, c), () -> model.punch(a, b, c));
            same(made, "strip of " + all, () -> tree.strip(a, b, c, d),
                    () -> model.strip(a, b, c, d));
        }
    }

    private void ask(String made) {
        int file = file();
        int block = block();
        same(made, "look " + block, () -> tree.look(file, block), () -> model.look(file, block));
        same(made, "written " + block, () -> tree.written(file, block),
                () -> model.written(file, block));
        same(made, "reach " + block, () -> tree.reach(file, block),
                () -> model.reach(file, block));
        for (int what = 0; what < 6; what++) {
            int number = what;
            same(made, "count " + what, () -> tree.count(file, number),
                    () -> model.count(file, number));
        }
        checks.is(made + "free", tree.free(), model.free());
    }

    private void bytes(String made) {
        for (int file = 0; file < 4; file++) {
            byte[] got = new byte[60];
            for (int i = 0; i < got.length; i++) {
                got[i] = (byte) unsigned(tree.rootByte(file, i));
            }
            checks.is(made + "bytes of root " + file + " as due",
                    Arrays.equals(got, model.rootBytes(file)), true);
        }
        for (int block = 1; block <= 255; block++) {
            byte[] due = model.blockBytes(block);
            int number = block;
            if (due == null) {
                checks.fails(made + "nodeByte " + block, IndexOutOfBoundsException.class,
                        () -> tree.nodeByte(number, 0));
                continue;
            }
            byte[] got = new byte[1024];
            for (int i = 0; i < got.length; i++) {
                got[i] = (byte) unsigned(tree.nodeByte(block, i));
            }
            checks.is(made + "bytes of block " + block + " as due", Arrays.equals(got, due), true);
        }
    }

    // A byte is told as 0 .. 255; a cast alone would let a number beyond that pass.
    private static int unsigned(int told) {
        if (told < 0 || told > 255) {
            throw new AssertionError("a byte of " + told);
        }
        return told;
    }
}
