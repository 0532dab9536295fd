import java.util.ArrayList;
import java.util.List;
import java.util.Random;

/** Many runs of mixed calls, each answer compared with the model's; the same runs every time. */
public final class ModelTest {
    private static final int RUNS = 6000;
    private static final int MOST_CALLS = 512;
    private static final int CALLS_TO_LOOK = 300;
    private static final int[] ODD = {Integer.MIN_VALUE, -3, -2, -1, 0, 1, 2, 3, 4, 15, 16, 17, 40, 116, 117, 119, 120,
        121, 255, 256, 1 << 30, Integer.MAX_VALUE};
    private static final int[] OF_STREAMS = {0, 1, 2, 3, 8, 9, 10, 15, 16, 17, 30, 31, 32, 255};

    private final Random random;
    private final int run;
    private final SliceDepot x;
    private final Model m;
    private final Due due;
    // Each run has its own likings, so that some are full of images and others of trees.
    private final int[] weights = new int[22];
    private int calls;

    private ModelTest(int run, Due due) {
        this.run = run;
        this.due = due;
        random = new Random(run);
        int[] p = isColliding() ? new int[] {8, 8, 8} : sizes();
        x = new SliceDepot(p[0], p[1], p[2]);
        m = new Model(p[0], p[1], p[2]);
        for (int i = 0; i < weights.length; i++) {
            weights[i] = 1 + random.nextInt(random.nextInt(4) == 0 ? 20 : 6);
        }
    }

    public static void main(String[] args) {
        Due due = new Due();
        for (int run = 0; run < RUNS && due.wrong() < 20; run++) {
            ModelTest t = new ModelTest(run, due);
            if (t.isColliding()) {
                t.collidingTree();
            }
            while (t.calls < MOST_CALLS - CALLS_TO_LOOK) {
                t.call();
            }
            t.lookAtAll();
        }
        due.end();
    }

    private boolean isColliding() {
        return run % 3 == 0;
    }

    private int[] sizes() {
        switch (random.nextInt(6)) {
            case 0: return new int[] {8, 8, 8};
            case 1: return new int[] {8, 12, 24};
            case 2: return new int[] {1 + random.nextInt(34), 1 + random.nextInt(34), 1 + random.nextInt(34)};
            default:
                int least = 8 + random.nextInt(8);
                int mean = least + random.nextInt(6);
                return new int[] {least, mean, Math.min(32, mean + random.nextInt(20))};
        }
    }

    private void same(String call, long got, long want) {
        calls++;
        due.is("run " + run + ", call " + calls + ": " + call, got, want);
    }

    private void same(String call, boolean got, boolean want) {
        same(call, got ? 1L : 0L, want ? 1L : 0L);
    }

    private int below(int n) {
        return random.nextInt(12) == 0 ? ODD[random.nextInt(ODD.length)] : random.nextInt(n);
    }

    private int name() {
        return random.nextInt(8) == 0 ? 1 + random.nextInt(31) : 1 + random.nextInt(4);
    }

    private int path() {
        if (random.nextInt(25) == 0) {
            return random.nextInt();
        }
        int path = 0;
        int n = random.nextInt(3) == 0 ? random.nextInt(7) : 1 + random.nextInt(2);
        for (int k = 0; k < n; k++) {
            path |= name() << (5 * k);
        }
        return random.nextInt(40) == 0 ? path | 1 << random.nextInt(32) : path;
    }

    private void call() {
        int sum = 0;
        for (int w : weights) {
            sum += w;
        }
        int drawn = random.nextInt(sum);
        int kind = 0;
        while (drawn >= weights[kind]) {
            drawn -= weights[kind];
            kind++;
        }
        if (kind < 7) {
            callOnTree(kind);
        } else if (kind < 14) {
            callOnImages(kind);
        } else {
            callOnOutput(kind);
        }
    }

    private void callOnTree(int kind) {
        int path = path();
        int v = random.nextBoolean() ? random.nextInt() : random.nextInt(3);
        switch (kind) {
            case 0, 1, 2 -> {
                int k = random.nextInt(15) == 0 ? below(4) : 1 + random.nextInt(2);
                same("create(" + path + ", " + k + ")", x.create(path, k), m.create(path, k));
            }
            case 3, 4 -> {
                int n = random.nextBoolean() ? 16 : below(18);
                same("append(" + path + ", " + v + ", " + n + ")", x.append(path, v, n), m.append(path, v, n));
            }
            case 5 -> {
                int at = below(17);
                same("edit(" + path + ", " + at + ", " + v + ")", x.edit(path, at, v), m.edit(path, at, v));
            }
            default -> same("remove(" + path + ")", x.remove(path), m.remove(path));
        }
    }

    private void callOnImages(int kind) {
        int image = below(4);
        int k = below(6);
        int v = below(256);
        switch (kind) {
            case 7 -> same("make()", x.make(), m.make());
            case 8 -> same("discard(" + image + ")", x.discard(image), m.discard(image));
            case 9 -> same("collect()", x.collect(), m.collect());
            case 10 -> same("root(" + image + ")", x.root(image), m.root(image));
            case 11 -> same("piece(" + image + ", " + k + ")", x.piece(image, k), m.piece(image, k));
            default -> {
                int where = below(2);
                int at = random.nextBoolean() ? -1 : below(9);
                same("damage(" + where + ", " + image + ", " + k + ", " + at + ", " + v + ")",
                        x.damage(where, image, k, at, v), m.damage(where, image, k, at, v));
            }
        }
    }

    private void callOnOutput(int kind) {
        int s = below(2);
        int at = below(60);
        int v = below(256);
        switch (kind) {
            case 14 -> same("seed(" + s + ")", x.seed(s), m.seed(s));
            case 15 -> same("alter(" + s + ", " + at + ", " + v + ")", x.alter(s, at, v), m.alter(s, at, v));
            case 16 -> same("scan(" + s + ")", x.scan(s), m.scan(s));
            case 17, 18 -> {
                int image = below(4);
                same("extract(" + image + ")", x.extract(image), m.extract(image));
                for (int what = 0; what < 4; what++) {
                    same("counts(" + what + ")", x.counts(what), m.counts(what));
                }
            }
            case 19 -> {
                int value = random.nextInt(4) == 0 ? -1 : OF_STREAMS[random.nextInt(OF_STREAMS.length)];
                spoil(random.nextBoolean() ? m.output(-1) : at, value);
                same("unpack()", x.unpack(), m.unpack());
            }
            case 20 -> writeStream();
            default -> {
                int what = below(8);
                same("size(" + what + ")", x.size(what), m.size(what));
                same("counts(" + what + ")", x.counts(what), m.counts(what));
                same("output(" + at + ")", x.output(at), m.output(at));
                same("unpack()", x.unpack(), m.unpack());
            }
        }
    }

    private void spoil(int i, int v) {
        same("spoil(" + i + ", " + v + ")", x.spoil(i, v), m.spoil(i, v));
    }

    /** The output becomes a stream that keeps to the rules, or nearly so. */
    private void writeStream() {
        if (calls > (MOST_CALLS - CALLS_TO_LOOK) / 2) {
            return;
        }
        List<Integer> bytes = new ArrayList<>();
        body(bytes, 0, new int[] {9 + random.nextInt(3)}, random.nextInt(4));
        spoil(0, -1);
        for (int i = 0; i < bytes.size() && i < 120; i++) {
            spoil(i, bytes.get(i));
        }
        same("unpack()", x.unpack(), m.unpack());
        same("size(2)", x.size(2), m.size(2));
    }

    private void body(List<Integer> to, int depth, int[] left, int faults) {
        int n = 0;
        int name = 0;
        boolean deep = random.nextBoolean();
        while (left[0] > 0 && name < 31 && random.nextInt(5) > 0) {
            left[0]--;
            n++;
            name += 1 + random.nextInt(random.nextInt(3) == 0 ? 31 - name : 1);
            boolean file = !deep && random.nextInt(3) > 0;
            to.add(file ? 1 : 2);
            to.add(random.nextInt(60) < faults ? name - 1 : name);
            if (file) {
                int length = random.nextInt(3) == 0 ? random.nextInt(18) : random.nextInt(4);
                to.add(length);
                for (int i = 0; i < length; i++) {
                    to.add(random.nextInt(256));
                }
            } else if (depth < 8) {
                body(to, depth + 1, left, faults);
            } else {
                to.add(9);
                to.add(0);
            }
        }
        to.add(9);
        to.add(random.nextInt(60) < faults ? n + 1 : n);
    }

    /** Ids that meet do not come by chance: such bytes are put into files here. */
    private void collidingTree() {
        boolean twins = random.nextBoolean();
        int[] first = Help.laid(Help.row(16, 40), 5, twins ? Help.TWIN : Help.LONGER);
        int[] second = twins ? Help.laid(Help.row(16, 80), 2, Help.OTHER_TWIN) : Help.laid(Help.row(15, 80), 10, Help.SHORTER);
        file(1, random.nextInt(3) == 0 ? Help.row(16, 7) : first);
        file(2, second);
        same("make()", x.make(), m.make());
    }

    private void file(int path, int[] bytes) {
        same("create(" + path + ", 1)", x.create(path, 1), m.create(path, 1));
        same("append(" + path + ")", x.append(path, 0, bytes.length), m.append(path, 0, bytes.length));
        for (int i = 0; i < bytes.length; i++) {
            same("edit(" + path + ", " + i + ")", x.edit(path, i, bytes[i]), m.edit(path, i, bytes[i]));
        }
    }

    private void lookAtAll() {
        for (int what = 0; what < 8; what++) {
            same("size(" + what + ")", x.size(what), m.size(what));
            same("counts(" + what + ")", x.counts(what), m.counts(what));
        }
        for (int image = 0; image < 4; image++) {
            same("root(" + image + ")", x.root(image), m.root(image));
            for (int k = 0; k < 16; k++) {
                same("piece(" + image + ", " + k + ")", x.piece(image, k), m.piece(image, k));
            }
        }
        for (int i = -1; i < 121 && calls < MOST_CALLS; i++) {
            same("output(" + i + ")", x.output(i), m.output(i));
        }
    }
}
