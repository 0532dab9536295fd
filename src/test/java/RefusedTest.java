import java.util.Arrays;

/**
 * "A call that answers false, or that is said to be refused, changes nothing": every reason to refuse a call that
 * promises 2 to 19 give, in states that are empty, rich, full, or behind a failed extraction.
 */
public final class RefusedTest {
    private static final Due DUE = new Due();
    private static final int MIN = Integer.MIN_VALUE;
    private static final int MAX = Integer.MAX_VALUE;

    private static final Refusals EMPTY = new Refusals(DUE, "empty", States::empty);
    private static final Refusals RICH = new Refusals(DUE, "rich", States::rich);
    private static final Refusals FAILED = new Refusals(DUE, "failed", States::failed);
    private static final Refusals FULL = new Refusals(DUE, "full", States::full);
    private static final Refusals EIGHTY = new Refusals(DUE, "eighty bytes", States::eighty);
    private static final Refusals[] ALL = {EMPTY, RICH, FAILED, FULL, EIGHTY};

    /** Some would be the path of an entry of a rich or a full object, if bits of theirs were not looked at. */
    private static final int[] NO_PATHS = {-1, MIN, MIN | 1, 1 << 30, 1 << 30 | 4, MIN | 4, 32, 1 << 29, 4 | 1 << 10,
        4 | 1 << 29, States.DEEP_FILE | 1 << 15, States.DEEP_FILE | 1 << 30, States.DEEP_FILE | MIN,
        States.DEEPEST | 1 << 30, States.DEEPEST | MIN, Help.path(0, 4), Help.path(0, 0, 0, 0, 0, 31)};

    private RefusedTest() {
    }

    public static void main(String[] args) {
        createRefused();
        createRefusedAtTenEntries();
        appendRefused();
        appendRefusedByLimits();
        editRefused();
        removeRefused();
        makeRefused();
        discardRefused();
        damageRefused();
        damageRefusedByBytes();
        seedAndScanRefused();
        alterRefused();
        extractRefused();
        spoilRefused();
        unpackAtFault();
        lookingChangesNothing();
        DUE.end();
    }

    private static void isNoCreate(Refusals in, int path, int kind) {
        in.isFalse("create(" + path + ", " + kind + ")", x -> x.create(path, kind));
    }

    private static void createRefused() {
        for (Refusals in : ALL) {
            for (int kind = 1; kind <= 2; kind++) {
                for (int path : NO_PATHS) {
                    isNoCreate(in, path, kind);
                }
                isNoCreate(in, 0, kind);
                isNoCreate(in, Help.path(30, 1), kind);
                isNoCreate(in, Help.path(30, 1, 1, 1, 1, 1), kind);
            }
            for (int kind : new int[] {MIN, -1, 0, 3, 9, 257, 258, MIN | 1, MAX}) {
                isNoCreate(in, 7, kind);
                isNoCreate(in, Help.path(1, 7), kind);
            }
        }
        int[] there = {1, 4, 6, States.DEEP_FILE, Help.path(1, 3)};
        int[] belowNoDirectory = {Help.path(4, 1), Help.path(6, 1), Help.path(1, 2, 1), Help.path(1, 3, 1, 1)};
        for (int kind = 1; kind <= 2; kind++) {
            for (int path : there) {
                isNoCreate(RICH, path, kind);
            }
            for (int path : belowNoDirectory) {
                isNoCreate(RICH, path, kind);
            }
        }
    }

    private static void createRefusedAtTenEntries() {
        for (int kind = 1; kind <= 2; kind++) {
            isNoCreate(FULL, 5, kind);
            isNoCreate(FULL, Help.path(31, 1), kind);
            isNoCreate(FULL, Help.path(31, 31, 31, 31, 31, 1), kind);
            isNoCreate(FULL, 31, kind);
        }
    }

    private static void isNoAppend(Refusals in, int path, int n) {
        in.answers("append(" + path + ", 5, " + n + ")", -1, x -> x.append(path, 5, n));
    }

    private static void appendRefused() {
        for (Refusals in : ALL) {
            for (int path : NO_PATHS) {
                isNoAppend(in, path, 1);
            }
            for (int path : new int[] {0, 30, Help.path(30, 1), Help.path(4, 1)}) {
                isNoAppend(in, path, 1);
            }
        }
        for (int path : new int[] {1, Help.path(1, 3), Help.path(1, 1), Help.path(1, 2, 2), 2}) {
            isNoAppend(RICH, path, 1);
        }
        for (int n : new int[] {MIN, -16, -1, 0, 17, 257, MAX}) {
            isNoAppend(RICH, 6, n);
            isNoAppend(RICH, 4, n);
        }
    }

    private static void appendRefusedByLimits() {
        for (int n = 4; n <= 16; n++) {
            isNoAppend(RICH, 4, n);
            isNoAppend(RICH, States.DEEP_FILE, n);
        }
        isNoAppend(FULL, 1, 1);
        isNoAppend(FULL, States.DEEPEST, 1);
        for (int n : new int[] {1, 15, 16}) {
            isNoAppend(EIGHTY, 6, n);
            isNoAppend(EIGHTY, 5, n);
        }
        Refusals seventyNine = new Refusals(DUE, "79 bytes", () -> {
            Depot x = States.eighty();
            x.remove(6);
            x.create(6, 1);
            return x;
        });
        for (int n = 2; n <= 16; n++) {
            isNoAppend(seventyNine, 6, n);
        }
    }

    private static void isNoEdit(Refusals in, int path, int at) {
        in.isFalse("edit(" + path + ", " + at + ", 3)", x -> x.edit(path, at, 3));
    }

    private static void editRefused() {
        for (Refusals in : ALL) {
            for (int path : NO_PATHS) {
                isNoEdit(in, path, 0);
            }
            for (int path : new int[] {0, 30, Help.path(30, 1), Help.path(4, 1)}) {
                isNoEdit(in, path, 0);
            }
        }
        for (int path : new int[] {1, Help.path(1, 3), Help.path(1, 1), 2}) {
            isNoEdit(RICH, path, 0);
        }
        for (int at : new int[] {MIN, -1, 13, 14, 16, MAX}) {
            isNoEdit(RICH, 4, at);
            isNoEdit(RICH, States.DEEP_FILE, at);
        }
        for (int at : new int[] {-1, 0, 1}) {
            isNoEdit(RICH, 6, at);
        }
        isNoEdit(FULL, 1, 16);
        isNoEdit(FULL, States.DEEPEST, 16);
    }

    private static void removeRefused() {
        for (Refusals in : ALL) {
            for (int path : NO_PATHS) {
                in.answers("remove(" + path + ")", -1, x -> x.remove(path));
            }
            for (int path : new int[] {0, 30, Help.path(30, 31), Help.path(4, 1)}) {
                in.answers("remove(" + path + ")", -1, x -> x.remove(path));
            }
        }
        for (int path : new int[] {2, Help.path(1, 1), Help.path(1, 2, 2), Help.path(1, 3, 1)}) {
            RICH.answers("remove(" + path + ")", -1, x -> x.remove(path));
        }
    }

    private static void makeRefused() {
        FULL.answers("make()", -1, Depot::make);
        Refusals both = new Refusals(DUE, "four images, and a tree that would bring a 41st id", () -> {
            Depot x = States.full();
            x.edit(1, 0, 99);
            return x;
        });
        both.answers("make()", -1, Depot::make);
        for (int ids : new int[] {4, 5, 12}) {
            Refusals tooMany = new Refusals(DUE, "37 ids and " + ids + " to come", () -> States.withIdsToCome(ids));
            tooMany.answers("make()", -2, Depot::make);
        }
    }

    private static void discardRefused() {
        for (Refusals in : ALL) {
            for (int image : new int[] {MIN, -1, 4, 5, 256, MAX}) {
                in.isFalse("discard(" + image + ")", x -> x.discard(image));
            }
        }
        RICH.isFalse("discard(2)", x -> x.discard(2));
        RICH.isFalse("discard(3)", x -> x.discard(3));
        EMPTY.isFalse("discard(0)", x -> x.discard(0));
        Refusals gone = new Refusals(DUE, "image 1 is gone", () -> {
            Depot x = States.full();
            x.discard(1);
            return x;
        });
        gone.isFalse("discard(1)", x -> x.discard(1));
    }

    private static void isNoDamage(Refusals in, int where, int image, int k, int at, int v) {
        in.isFalse("damage(" + where + ", " + image + ", " + k + ", " + at + ", " + v + ")",
                x -> x.damage(where, image, k, at, v));
    }

    private static void damageRefused() {
        for (int at = -1; at <= 0; at++) {
            for (int where : new int[] {MIN, -1, 2, 3, 256, MAX}) {
                isNoDamage(RICH, where, 0, 2, at, 99);
                isNoDamage(FULL, where, 0, 2, at, 99);
            }
            for (int where = 0; where <= 1; where++) {
                for (int image : new int[] {MIN, -1, 2, 3, 4, MAX}) {
                    isNoDamage(RICH, where, image, 2, at, 99);
                }
                for (int k : new int[] {MIN, -1, 8, 15, 16, MAX}) {
                    isNoDamage(RICH, where, 0, k, at, 99);
                }
                for (int k : new int[] {-1, 15, 16}) {
                    isNoDamage(FULL, where, 3, k, at, 99);
                }
                isNoDamage(EMPTY, where, 0, 0, at, 99);
            }
            // Nothing is kept under these ids.
            isNoDamage(RICH, 0, 1, 5, at, 99);
            isNoDamage(RICH, 1, 1, 5, at, 99);
            isNoDamage(RICH, 1, 0, 0, at, 99);
            isNoDamage(RICH, 1, 0, 3, at, 99);
            isNoDamage(FAILED, 0, 0, 5, at, 99);
            isNoDamage(FAILED, 1, 0, 5, at, 99);
        }
    }

    private static void damageRefusedByBytes() {
        for (int where = 0; where <= 1; where++) {
            for (int at : new int[] {MIN, -3, -2, 8, 9, 31, 32, MAX}) {
                isNoDamage(RICH, where, 0, 2, at, 99);
            }
            // The last piece has five bytes.
            for (int at : new int[] {-2, 5, 6, 7}) {
                isNoDamage(RICH, where, 0, 7, at, 99);
            }
            for (int v : new int[] {MIN, -2, -1, 256, 257, MAX}) {
                isNoDamage(RICH, where, 0, 2, 0, v);
                isNoDamage(RICH, where, 0, 2, 7, v);
                isNoDamage(RICH, where, 0, 2, 8, v);
                isNoDamage(RICH, where, 0, 2, -2, v);
            }
        }
    }

    private static void seedAndScanRefused() {
        for (Refusals in : ALL) {
            for (int s : new int[] {MIN, -1, 2, 3, 256, MAX}) {
                in.isFalse("seed(" + s + ")", x -> x.seed(s));
                in.answers("scan(" + s + ")", -1, x -> x.scan(s));
            }
        }
    }

    private static void isNoAlter(Refusals in, int s, int at, int v) {
        in.isFalse("alter(" + s + ", " + at + ", " + v + ")", x -> x.alter(s, at, v));
    }

    private static void alterRefused() {
        for (Refusals in : ALL) {
            for (int s : new int[] {MIN, -1, 2, 3, 256, MAX}) {
                isNoAlter(in, s, 0, 5);
            }
            for (int s = 0; s <= 1; s++) {
                for (int at : new int[] {MIN, -1, 117, 118, MAX}) {
                    isNoAlter(in, s, at, 5);
                }
                for (int v : new int[] {MIN, -1, 256, 257, MAX}) {
                    isNoAlter(in, s, 0, v);
                    isNoAlter(in, s, 8, v);
                }
            }
        }
        for (int s = 0; s <= 1; s++) {
            isNoAlter(EMPTY, s, 0, 5);
            isNoAlter(RICH, s, 61, 5);
            isNoAlter(FAILED, s, 61, 5);
            isNoAlter(RICH, s, 62, 5);
        }
    }

    private static void extractRefused() {
        for (Refusals in : ALL) {
            for (int image : new int[] {MIN, -1, 4, 5, 256, MAX}) {
                in.answers("extract(" + image + ")", -1, x -> x.extract(image));
            }
        }
        EMPTY.answers("extract(0)", -1, x -> x.extract(0));
        for (int image = 2; image <= 3; image++) {
            int none = image;
            RICH.answers("extract(" + none + ")", -1, x -> x.extract(none));
            FAILED.answers("extract(" + none + ")", -1, x -> x.extract(none));
        }
        Refusals gone = new Refusals(DUE, "image 0 is gone", () -> {
            Depot x = States.rich();
            x.discard(0);
            return x;
        });
        gone.answers("extract(0)", -1, x -> x.extract(0));
    }

    private static void isNoSpoil(Refusals in, int i, int v) {
        in.isFalse("spoil(" + i + ", " + v + ")", x -> x.spoil(i, v));
    }

    private static void spoilRefused() {
        for (Refusals in : ALL) {
            for (int v : new int[] {MIN, -3, -2, 256, 257, MAX}) {
                for (int i : new int[] {-1, 0, 60, 61, 120}) {
                    isNoSpoil(in, i, v);
                }
            }
            for (int v = -1; v <= 0; v++) {
                for (int i : new int[] {MIN, -2, -1, 121, MAX}) {
                    isNoSpoil(in, i, v);
                }
            }
        }
        for (int v = -1; v <= 255; v += 128) {
            isNoSpoil(EMPTY, 1, v);
            isNoSpoil(FAILED, 1, v);
            isNoSpoil(RICH, 62, v);
        }
        isNoSpoil(FULL, 120, 0);
        isNoSpoil(FULL, 120, 255);
    }

    /** A fault is no refusal by name, but "the tree stays as it was", "the output stays", and nothing else is said to change. */
    private static void unpackAtFault() {
        EMPTY.answers("unpack()", -1, Depot::unpack);
        RICH.answers("unpack()", -1, Depot::unpack);
        FAILED.answers("unpack()", -1, Depot::unpack);
        Refusals behindTheEnd = new Refusals(DUE, "three bytes behind the stream", States::full);
        behindTheEnd.answers("unpack()", -118, Depot::unpack);
        int[][] streams = {{9}, {9, 1}, {9, 0, 9}, {1, 1, 3, 5, 5}, {1, 1, 1, 5, 2, 2, 9, 0, 9, 3}, {2, 4, 1, 4, 16}};
        int[] answers = {-2, -2, -3, -6, -10, -6};
        for (int i = 0; i < streams.length; i++) {
            int[] bytes = streams[i];
            Refusals in = new Refusals(DUE, "output " + Arrays.toString(bytes), () -> {
                Depot x = States.rich();
                Help.outputs(x, bytes);
                return x;
            });
            in.answers("unpack()", answers[i], Depot::unpack);
        }
    }

    private static void lookingChangesNothing() {
        for (Refusals in : new Refusals[] {RICH, FAILED, FULL}) {
            in.answers("root, piece, counts, output, size", 0, x -> {
                for (int i = -2; i <= 16; i++) {
                    x.root(i);
                    x.piece(i, 0);
                    x.piece(0, i);
                    x.counts(i);
                    x.output(i);
                    x.size(i);
                }
                return 0;
            });
        }
        EMPTY.answers("collect() of nothing", 0, Depot::collect);
        FULL.answers("collect() of nothing", 0, Depot::collect);
    }
}
