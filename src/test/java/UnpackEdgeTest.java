import java.util.Arrays;

/** The edges of promises 18 to 20. What is refused is in RefusedTest as well. */
public final class UnpackEdgeTest {
    private static final Due DUE = new Due();
    private static final int MIN = Integer.MIN_VALUE;
    private static final int MAX = Integer.MAX_VALUE;

    /** Good streams with all that a tree can have, up to its limits. */
    private static final int[][] GOOD = {
        {9, 0},
        {1, 1, 0, 9, 1},
        {2, 31, 9, 0, 9, 1},
        {1, 1, 2, 9, 0, 1, 31, 0, 9, 2},
        {2, 1, 1, 2, 1, 9, 2, 3, 9, 0, 9, 2, 1, 4, 3, 1, 2, 9, 9, 2},
        {2, 31, 2, 1, 9, 0, 2, 2, 1, 1, 1, 7, 9, 1, 9, 2, 9, 1},
        {2, 1, 2, 1, 2, 1, 2, 1, 2, 1, 1, 1, 1, 5, 2, 2, 9, 0, 9, 2, 9, 1, 9, 1, 9, 1, 9, 1, 9, 1},
        {1, 1, 0, 1, 2, 0, 1, 3, 0, 1, 4, 0, 1, 5, 0, 1, 6, 0, 1, 7, 0, 1, 8, 0, 1, 30, 0, 1, 31, 0, 9, 10},
        {2, 1, 2, 2, 2, 3, 9, 0, 2, 4, 9, 0, 9, 2, 9, 1, 2, 5, 2, 6, 2, 7, 9, 0, 9, 1, 9, 1, 2, 8, 2, 9, 9, 0, 9, 1,
            1, 31, 1, 0, 9, 4},
    };

    private UnpackEdgeTest() {
    }

    public static void main(String[] args) {
        spoilFirstAndLast();
        spoilAddsBehindTheLast();
        spoilUpTo120();
        spoilKeepsTheFirst();
        spoilOfAnEmptyOutput();
        spoilNeither();
        spoilLeavesTheRest();
        goodStreams();
        moreMustFollow();
        nothingBehindTheRoot();
        everyByteChanged();
        whereAnEntryMayBegin();
        tenEntriesHaveBegun();
        fiveNamesDeep();
        names();
        namesOfOneDirectory();
        bytesOfAFile();
        bytesOfAllFiles();
        numberBehindANine();
        emptyOutput();
        firstFaultAlone();
        treeTakesThePlace();
        limitsOfTheNewTree();
        twiceTheSame();
        longestOutput();
        sizeOfNone();
        sizesOfAFullObject();
        DUE.end();
    }

    private static Depot eights() {
        return new Depot(8, 8, 8);
    }

    private static Depot withOutput(int... bytes) {
        Depot x = eights();
        Help.outputs(x, bytes);
        return x;
    }

    /** "for v 0 .. 255 byte i (from 0) becomes v" */
    private static void spoilFirstAndLast() {
        Depot x = withOutput(1, 2, 3);
        DUE.yes("spoil(0, 255)", x.spoil(0, 255));
        DUE.yes("spoil(2, 0)", x.spoil(2, 0));
        Help.isOutput(DUE, "first and last", x, 255, 2, 0);
        DUE.no("spoil(-1, 0)", x.spoil(-1, 0));
        DUE.no("spoil(4, 0)", x.spoil(4, 0));
        Help.isOutput(DUE, "neither before nor behind", x, 255, 2, 0);
    }

    /** "or v is added when i is the number of bytes" */
    private static void spoilAddsBehindTheLast() {
        Depot x = eights();
        for (int i = 0; i < 5; i++) {
            DUE.no("one too far", x.spoil(i + 1, 7));
            DUE.yes("spoil(" + i + ", " + 50 * i + ")", x.spoil(i, 50 * i));
            DUE.is("output(-1)", x.output(-1), i + 1);
        }
        Help.isOutput(DUE, "added", x, 0, 50, 100, 150, 200);
    }

    /** "and that is less than 120" */
    private static void spoilUpTo120() {
        Depot x = States.full();
        DUE.yes("keep 119", x.spoil(119, -1));
        DUE.yes("the 120th", x.spoil(119, 200));
        DUE.no("a 121st", x.spoil(120, 200));
        DUE.no("a 121st of 0", x.spoil(120, 0));
        DUE.no("behind that", x.spoil(121, 200));
        DUE.is("output(-1)", x.output(-1), 120);
        DUE.is("output(119)", x.output(119), 200);
        DUE.is("output(120)", x.output(120), -2);
        DUE.yes("the 120th is changed", x.spoil(119, 201));
        DUE.is("output(119) now", x.output(119), 201);
        DUE.yes("keep all 120", x.spoil(120, -1));
        DUE.no("keep 121", x.spoil(121, -1));
        DUE.is("output(-1) still", x.output(-1), 120);
    }

    /** "for v = -1 the output keeps its first i bytes alone (i from 0 to the number of bytes)" */
    private static void spoilKeepsTheFirst() {
        for (int i = 0; i <= 4; i++) {
            Depot x = withOutput(10, 11, 12, 13);
            DUE.yes("spoil(" + i + ", -1)", x.spoil(i, -1));
            Help.isOutput(DUE, "the first " + i, x, Arrays.copyOf(new int[] {10, 11, 12, 13}, i));
            DUE.is("behind them", x.output(i), -2);
            DUE.yes("added behind them", x.spoil(i, 99));
            DUE.is("the added one", x.output(i), 99);
            DUE.is("nothing comes back", x.output(i + 1), -2);
        }
    }

    private static void spoilOfAnEmptyOutput() {
        Depot x = eights();
        DUE.yes("keep 0 of 0", x.spoil(0, -1));
        DUE.no("keep 1 of 0", x.spoil(1, -1));
        DUE.no("keep -1 of 0", x.spoil(-1, -1));
        DUE.is("output(-1)", x.output(-1), 0);
        DUE.yes("a first byte", x.spoil(0, 0));
        Help.isOutput(DUE, "one byte", x, 0);
    }

    /** "False when it is neither." */
    private static void spoilNeither() {
        Depot x = withOutput(1, 2, 3);
        int[] places = {MIN, -1, 0, 2, 3, 4, MAX};
        for (int i : places) {
            for (int v : new int[] {MIN, -2, 256, 257, MAX}) {
                DUE.no("spoil(" + i + ", " + v + ")", x.spoil(i, v));
            }
        }
        for (int i : new int[] {MIN, -2, -1, 4, 5, MAX}) {
            for (int v : new int[] {-1, 0, 255}) {
                DUE.no("spoil(" + i + ", " + v + ")", x.spoil(i, v));
            }
        }
        Help.isOutput(DUE, "as it was", x, 1, 2, 3);
    }

    private static void spoilLeavesTheRest() {
        Depot x = eights();
        Help.file(x, 1, Help.row(16, 50));
        x.make();
        x.extract(0);
        for (int i = 0; i < 21; i++) {
            x.spoil(i, 0);
        }
        DUE.is("the cache is good", x.extract(0), 21);
        Help.isCounts(DUE, "all cached", x, 0, 3, 0, 0);
        DUE.is("output(3)", x.output(3), 50);
        x.spoil(0, -1);
        DUE.is("the tree stays", x.size(1), 16);
    }

    private static void reads(String what, int answer, int... bytes) {
        Depot x = eights();
        Help.file(x, 7, 70, 71);
        Help.outputs(x, bytes);
        String call = what + ": unpack() of " + Arrays.toString(bytes);
        DUE.is(call, x.unpack(), answer);
        DUE.is(call + ": output(-1)", x.output(-1), bytes.length);
        int[] stream = answer < 0 ? new int[] {1, 7, 2, 70, 71, 9, 1} : bytes;
        DUE.is(call + ": size(2)", x.size(2), stream.length);
        x.make();
        x.extract(0);
        Help.isOutput(DUE, call + ": the tree", x, stream);
        if (answer >= 0) {
            DUE.is(call + ": size(0)", x.size(0), answer);
        }
    }

    /** A good stream with some bytes in the place of others. */
    private static int[] with(int[] bytes, int from, int to, int... instead) {
        int[] all = new int[bytes.length - (to - from) + instead.length];
        System.arraycopy(bytes, 0, all, 0, from);
        System.arraycopy(instead, 0, all, from, instead.length);
        System.arraycopy(bytes, to, all, from + instead.length, bytes.length - to);
        return all;
    }

    private static void goodStreams() {
        int[] entries = {0, 1, 1, 2, 4, 4, 7, 10, 10};
        for (int g = 0; g < GOOD.length; g++) {
            reads("good", entries[g], GOOD[g]);
        }
    }

    /** "when all are but more must follow, the place behind the last byte is at fault" */
    private static void moreMustFollow() {
        for (int[] good : GOOD) {
            for (int n = 0; n < good.length; n++) {
                reads("more must follow", -1 - n, Arrays.copyOf(good, n));
            }
        }
    }

    /** "Behind the end of the root's body: nothing." */
    private static void nothingBehindTheRoot() {
        for (int[] good : GOOD) {
            for (int v : new int[] {0, 1, 2, 9, 255}) {
                reads("one byte behind", -1 - good.length, with(good, good.length, good.length, v));
                reads("two bytes behind", -1 - good.length, with(good, good.length, good.length, 9, v));
            }
        }
    }

    /** Each byte of a good stream becomes each byte that could matter; the second telling of the document judges. */
    private static void everyByteChanged() {
        int[] values = new int[40];
        for (int v = 0; v < 35; v++) {
            values[v] = v;
        }
        System.arraycopy(new int[] {80, 81, 127, 128, 255}, 0, values, 35, 5);
        for (int[] good : GOOD) {
            for (int i = 0; i < good.length; i++) {
                Depot x = withOutput(good);
                Model m = new Model(8, 8, 8);
                for (int k = 0; k < good.length; k++) {
                    m.spoil(k, good[k]);
                }
                for (int v : values) {
                    x.spoil(i, v);
                    m.spoil(i, v);
                    String call = "unpack() of " + Arrays.toString(good) + " with " + v + " at " + i;
                    DUE.is(call, x.unpack(), m.unpack());
                    for (int what = 0; what <= 2; what++) {
                        DUE.is(call + ": size(" + what + ")", x.size(what), m.size(what));
                    }
                }
            }
        }
    }

    /** "where an entry of a directory may begin, 9; or [..] 1 or 2" */
    private static void whereAnEntryMayBegin() {
        for (int v : new int[] {0, 3, 8, 10, 11, 127, 128, 255}) {
            reads("at the root's begin", -1, v);
            reads("behind a file", -4, 1, 1, 0, v, 0);
            reads("behind a file's bytes", -6, 1, 1, 2, 9, 9, v, 0);
            reads("at a directory's begin", -3, 2, 1, v);
            reads("behind a directory", -5, 2, 1, 9, 0, v, 1);
        }
    }

    /** "when fewer than 10 entries have begun before" */
    private static void tenEntriesHaveBegun() {
        int[] ten = GOOD[7];
        reads("a tenth file", 10, ten);
        reads("an eleventh file", -31, with(ten, 30, 30, 1, 31, 0));
        reads("an eleventh directory", -31, with(ten, 30, 30, 2, 31, 9, 0));
        // The tenth begins as a directory: what is in it would be the eleventh.
        reads("a tenth directory", 10, with(ten, 27, 30, 2, 31, 9, 0));
        reads("an eleventh in the tenth", -30, with(ten, 27, 30, 2, 31, 1, 1, 0, 9, 1));
        reads("ten in two directories", 10, 2, 1, 1, 1, 0, 1, 2, 0, 1, 3, 0, 1, 4, 0, 9, 4,
                2, 2, 1, 1, 0, 1, 2, 0, 1, 3, 0, 1, 4, 0, 9, 4, 9, 2);
        reads("eleven in two directories", -33, 2, 1, 1, 1, 0, 1, 2, 0, 1, 3, 0, 1, 4, 0, 9, 4,
                2, 2, 1, 1, 0, 1, 2, 0, 1, 3, 0, 1, 4, 0, 9, 4, 1, 3, 0, 9, 3);
    }

    /** "and the directory lies at most five names deep (the root lies none deep)" */
    private static void fiveNamesDeep() {
        for (int deep = 1; deep <= 6; deep++) {
            int[] stream = {9, 0};
            for (int d = 1; d <= deep; d++) {
                int[] body = with(stream, 0, 0, 2, d);
                stream = with(body, body.length, body.length, 9, 1);
            }
            reads(deep + " deep", deep, stream);
            int inside = 2 * deep;
            int file = deep <= 5 ? deep + 1 : -1 - inside;
            reads("a file in a directory " + deep + " deep", file, with(stream, inside, inside + 2, 1, 1, 0, 9, 1));
            reads("a directory in it", file, with(stream, inside, inside + 2, 2, 1, 9, 0, 9, 1));
        }
    }

    /** "A name: 1 .. 31 and greater than the names of all entries of the same directory before." */
    private static void names() {
        for (int v = 0; v < 256; v++) {
            boolean good = v >= 1 && v <= 31;
            reads("a file's name", good ? 1 : -2, 1, v, 0, 9, 1);
            reads("a directory's name", good ? 1 : -2, 2, v, 9, 0, 9, 1);
            reads("a name in a directory", good ? 2 : -4, 2, 5, 1, v, 0, 9, 1, 9, 1);
            reads("a name behind 15", good && v > 15 ? 2 : -5, 1, 15, 0, 1, v, 0, 9, 2);
        }
        reads("behind 31 there is none", -5, 1, 31, 0, 2, 31, 9, 0, 9, 2);
    }

    private static void namesOfOneDirectory() {
        reads("less than one in a directory before", 3, 2, 1, 1, 31, 0, 9, 1, 2, 2, 9, 0, 9, 2);
        reads("less than the directory's own", 2, 2, 31, 1, 1, 0, 9, 1, 9, 1);
        reads("as the directory's own", 2, 2, 31, 1, 31, 0, 9, 1, 9, 1);
        reads("as one directory before another", -9, 2, 3, 1, 31, 0, 9, 1, 2, 3, 9, 0, 9, 2);
        reads("less than the greatest, not the latest", -12, 1, 4, 0, 2, 9, 1, 1, 0, 9, 1, 1, 5, 0, 9, 3);
    }

    /** "A file's number of bytes: 0 .. 16", "A byte of a file: any." */
    private static void bytesOfAFile() {
        for (int n = 0; n <= 17; n++) {
            int[] stream = new int[n + 5];
            stream[0] = 1;
            stream[1] = 1;
            stream[2] = n;
            for (int i = 0; i < n; i++) {
                stream[3 + i] = 255 - 85 * (i % 4);
            }
            stream[n + 3] = 9;
            stream[n + 4] = 1;
            reads(n + " bytes", n <= 16 ? 1 : -3, stream);
        }
        reads("255 bytes", -3, 1, 1, 255, 9, 1);
        for (int v = 0; v < 256; v++) {
            reads("any byte", 1, 1, 1, 1, v, 9, 1);
        }
    }

    /** Files of so many bytes each, in the root. */
    private static int[] files(int... lengths) {
        int[] stream = {9, lengths.length};
        for (int i = lengths.length - 1; i >= 0; i--) {
            int[] entry = new int[3 + lengths[i]];
            entry[0] = 1;
            entry[1] = i + 1;
            entry[2] = lengths[i];
            stream = with(stream, 0, 0, entry);
        }
        return stream;
    }

    /** "and together with those of the files before at most 80" */
    private static void bytesOfAllFiles() {
        reads("80 in five", 5, files(16, 16, 16, 16, 16));
        reads("80 and 0", 6, files(16, 16, 16, 16, 16, 0));
        reads("80 and 1", -98, files(16, 16, 16, 16, 16, 1));
        reads("79 and 1", 6, files(16, 16, 16, 16, 15, 1));
        reads("79 and 2", -97, files(16, 16, 16, 16, 15, 2));
        reads("65 and 15", 6, files(16, 16, 16, 16, 1, 15));
        reads("65 and 16", -83, files(16, 16, 16, 16, 1, 16));
        reads("in ten", 10, files(8, 8, 8, 8, 8, 8, 8, 8, 8, 8));
        reads("in ten, and one more", -102, files(8, 8, 8, 8, 8, 8, 8, 8, 8, 9));
        int[] deep = with(files(16, 16, 16, 16), 76, 78, 2, 5, 1, 1, 16, 0, 0, 0, 0, 0, 0, 0, 0, 0, 0, 0, 0, 0, 0, 0, 0,
                9, 1, 1, 6, 1, 0, 9, 6);
        reads("in a directory before", -102, deep);
        reads("in a directory before, and none more", 7, with(deep, 101, 103, 0));
    }

    /** "Behind a 9: the number of the directory's entries." */
    private static void numberBehindANine() {
        for (int v = 0; v < 256; v++) {
            reads("of none", v == 0 ? 0 : -2, 9, v);
            reads("of one, not of those in it", v == 1 ? 3 : -12, 2, 1, 1, 1, 0, 1, 2, 0, 9, 2, 9, v);
        }
        reads("of the one in it", -7, 2, 1, 1, 1, 0, 9, 2, 9, 1);
        reads("of ten", 10, GOOD[7]);
        reads("nine of ten", -32, with(GOOD[7], 31, 32, 9));
    }

    private static void emptyOutput() {
        reads("of nothing", -1);
        Depot x = States.failed();
        DUE.is("behind a failed extraction", x.unpack(), -1);
        DUE.is("entries", x.size(0), 6);
    }

    /** "The first byte that isn't as it must be is at fault" */
    private static void firstFaultAlone() {
        reads("a name and all behind it", -2, 1, 0, 17, 17, 17);
        reads("a kind and a name", -1, 0, 32);
        reads("a number of bytes, and bytes that are missing", -3, 1, 1, 17);
        reads("the second name and the last number", -5, 1, 2, 0, 1, 1, 0, 9, 3);
        reads("the number in a directory and that of the root", -6, 2, 1, 2, 2, 9, 1, 9, 0, 9, 9);
    }

    /** "a tree that then takes the place of the tree (images, seeds, store and cache stay)" */
    private static void treeTakesThePlace() {
        Depot x = States.full();
        int root = x.root(0);
        int store = x.size(5);
        x.spoil(0, -1);
        x.spoil(0, 9);
        x.spoil(1, 0);
        DUE.is("unpack()", x.unpack(), 0);
        int[] sizes = {0, 0, 2, 4, 40, store, 6, 48};
        for (int what = 0; what < 8; what++) {
            DUE.is("size(" + what + ")", x.size(what), sizes[what]);
        }
        DUE.is("root(0)", x.root(0), root);
        DUE.is("output(-1)", x.output(-1), 2);
        Help.isCounts(DUE, "the counts stay", x, 10, 0, 5, 0);
        DUE.is("scan(0)", x.scan(0), 15);
        DUE.is("scan(1)", x.scan(1), 15);
        DUE.is("extract(3)", x.extract(3), 117);
        DUE.is("unpack() of the full tree", x.unpack(), 10);
        DUE.is("its stream", x.size(2), 117);
    }

    private static void limitsOfTheNewTree() {
        Depot x = withOutput(GOOD[7]);
        DUE.is("ten entries", x.unpack(), 10);
        DUE.no("an eleventh", x.create(9, 1));
        DUE.no("one that is there", x.create(31, 2));
        DUE.is("remove(31)", x.remove(31), 1);
        DUE.yes("a tenth", x.create(9, 2));
        x = withOutput(files(16, 16, 16, 16, 15, 0));
        DUE.is("six files", x.unpack(), 6);
        DUE.is("80 bytes", x.append(6, 1, 1), 1);
        DUE.is("81 bytes", x.append(5, 1, 1), -1);
        x = withOutput(GOOD[6]);
        x.unpack();
        DUE.is("the file six deep", x.append(Help.path(1, 1, 1, 1, 1, 1), 1, 1), 2);
        DUE.yes("its neighbour", x.create(Help.path(1, 1, 1, 1, 1, 3), 2));
        DUE.is("all go", x.remove(1), 8);
    }

    private static void twiceTheSame() {
        for (int[] good : GOOD) {
            Depot x = withOutput(good);
            int entries = x.unpack();
            DUE.is("unpack() again", x.unpack(), entries);
            DUE.is("size(2)", x.size(2), good.length);
            x.spoil(0, 0);
            DUE.is("at fault", x.unpack(), -1);
            DUE.is("size(2) still", x.size(2), good.length);
            DUE.is("size(0) still", x.size(0), entries);
        }
    }

    private static void longestOutput() {
        Depot x = States.full();
        DUE.is("three bytes too many", x.unpack(), -118);
        for (int n = 119; n >= 118; n--) {
            x.spoil(n, -1);
            DUE.is("too many still", x.unpack(), -118);
        }
        x.spoil(117, -1);
        DUE.is("the longest stream", x.unpack(), 10);
        x.spoil(116, -1);
        DUE.is("one too few", x.unpack(), -117);
        DUE.is("size(2)", x.size(2), 117);
    }

    /** "-1 for any other number" */
    private static void sizeOfNone() {
        for (int what : new int[] {MIN, -2, -1, 8, 9, 256, MAX}) {
            DUE.is("size(" + what + ")", States.full().size(what), -1);
            DUE.is("empty: size(" + what + ")", States.empty().size(what), -1);
        }
    }

    private static void sizesOfAFullObject() {
        int[] full = {10, 80, 117, 4, 40, 317, 6, 48};
        int[] empty = {0, 0, 2, 0, 0, 0, 0, 0};
        Depot x = States.full();
        Depot y = States.empty();
        for (int what = 0; what < 8; what++) {
            DUE.is("full: size(" + what + ")", x.size(what), full[what]);
            DUE.is("empty: size(" + what + ")", y.size(what), empty[what]);
        }
    }
}
