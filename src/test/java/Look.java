import java.util.ArrayList;
import java.util.List;

/** Ways to look at an object from outside; some use it up, so each look has an object of its own. */
enum Look {
    /** What calls that change nothing show. */
    SHOWN,
    /** The bytes of the tree's stream. */
    TREE,
    /** What the tree still takes, and what is there to be taken away. */
    ROOM,
    /** Which pieces the store has good. */
    STORE,
    /** Which pieces the cache has good, and which it has. */
    CACHE,
    /** What goes out of the cache when an id comes in, or five. */
    TURN,
    TURNS,
    /** Which pieces the seeds' lists and bytes have, before and after they are cut anew. */
    SEEDS;

    private static final int MOST_PIECES = 15;

    /** Every call with its answer, a line each. */
    List<String> at(Depot x) {
        List<String> lines = new ArrayList<>();
        switch (this) {
            case SHOWN -> shown(x, lines);
            case TREE -> tree(x, lines);
            case ROOM -> room(x, lines);
            case STORE -> {
                emptyTree(x);
                x.seed(0);
                x.seed(1);
                clear(1, x, lines);
                extractAll(x, lines);
            }
            case CACHE -> {
                extractAll(x, lines);
                clear(1, x, lines);
            }
            case TURN -> push(1, x, lines);
            case TURNS -> push(5, x, lines);
            default -> {
                clear(0, x, lines);
                clear(1, x, lines);
                extractAll(x, lines);
                add(lines, "scan(0)", x.scan(0));
                add(lines, "scan(1)", x.scan(1));
                extractAll(x, lines);
            }
        }
        return lines;
    }

    private static void add(List<String> lines, String call, long answer) {
        lines.add(call + " answered " + answer);
    }

    private static void add(List<String> lines, String call, boolean answer) {
        lines.add(call + " answered " + answer);
    }

    private static void sizes(Depot x, List<String> lines) {
        for (int what = 0; what < 8; what++) {
            add(lines, "size(" + what + ")", x.size(what));
        }
    }

    private static void counts(Depot x, List<String> lines) {
        for (int what = 0; what < 4; what++) {
            add(lines, "counts(" + what + ")", x.counts(what));
        }
    }

    private static void output(Depot x, List<String> lines) {
        int n = x.output(-1);
        add(lines, "output(-1)", n);
        for (int i = 0; i < n; i++) {
            add(lines, "output(" + i + ")", x.output(i));
        }
    }

    private static void shown(Depot x, List<String> lines) {
        sizes(x, lines);
        counts(x, lines);
        output(x, lines);
        for (int image = 0; image < 4; image++) {
            add(lines, "root(" + image + ")", x.root(image));
            long piece = 0;
            for (int k = 0; k <= MOST_PIECES && piece != -1; k++) {
                piece = x.piece(image, k);
                add(lines, "piece(" + image + ", " + k + ")", piece);
            }
        }
    }

    private static void tree(Depot x, List<String> lines) {
        for (int image = 0; image < 4; image++) {
            add(lines, "discard(" + image + ")", x.discard(image));
        }
        add(lines, "collect()", x.collect());
        add(lines, "make()", x.make());
        add(lines, "extract(0)", x.extract(0));
        output(x, lines);
    }

    private static void room(Depot x, List<String> lines) {
        for (int name = 1; name <= 31; name++) {
            add(lines, "create(" + name + ", 1)", x.create(name, 1));
            add(lines, "append(" + name + ", 5, 1)", x.append(name, 5, 1));
        }
        for (int n = 16; n > 0; n -= 5) {
            add(lines, "append(1, 6, " + n + ")", x.append(1, 6, n));
        }
        for (int name = 1; name <= 31; name++) {
            add(lines, "remove(" + name + ")", x.remove(name));
        }
        sizes(x, lines);
    }

    private static void emptyTree(Depot x) {
        for (int name = 1; name <= 31; name++) {
            x.remove(name);
        }
    }

    private static void clear(int where, Depot x, List<String> lines) {
        for (int image = 0; image < 4; image++) {
            for (int k = 0; k < MOST_PIECES && x.piece(image, k) != -1; k++) {
                String call = "damage(" + where + ", " + image + ", " + k + ", -1, 0)";
                add(lines, call, x.damage(where, image, k, -1, 0));
            }
        }
    }

    /** Images of one small piece each come and go, so that their ids come into the cache. */
    private static void push(int ids, Depot x, List<String> lines) {
        x.discard(3);
        x.collect();
        emptyTree(x);
        for (int name = 1; name <= ids; name++) {
            x.create(name, 1);
            int image = x.make();
            add(lines, "extract(" + image + ")", x.extract(image));
            add(lines, "size(7)", x.size(7));
            x.discard(image);
            x.collect();
            x.remove(name);
        }
        clear(1, x, lines);
    }

    private static void extractAll(Depot x, List<String> lines) {
        for (int image = 0; image < 4; image++) {
            add(lines, "extract(" + image + ")", x.extract(image));
            counts(x, lines);
        }
        add(lines, "size(7)", x.size(7));
    }
}
