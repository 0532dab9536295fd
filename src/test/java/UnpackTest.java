/** Promises 18 and 19: spoil, unpack. */
public final class UnpackTest {
    private static final Due DUE = new Due();

    private UnpackTest() {
    }

    public static void main(String[] args) {
        spoil();
        spoilRefused();
        spoilAtMost120();
        goodStreams();
        faults();
        tooDeep();
        tooManyEntries();
        tooManyBytes();
        largestTree();
        treeStaysAtAFault();
        otherThingsStay();
        DUE.end();
    }

    private static Depot fresh() {
        return new Depot(8, 12, 24);
    }

    private static void spoil() {
        Depot x = fresh();
        DUE.yes("add", x.spoil(0, 255));
        DUE.yes("add", x.spoil(1, 0));
        DUE.yes("add", x.spoil(2, 7));
        DUE.yes("change", x.spoil(0, 8));
        Help.isOutput(DUE, "spoilt", x, 8, 0, 7);
        DUE.yes("keep all", x.spoil(3, -1));
        Help.isOutput(DUE, "kept", x, 8, 0, 7);
        DUE.yes("keep one", x.spoil(1, -1));
        Help.isOutput(DUE, "cut", x, 8);
        DUE.yes("keep none", x.spoil(0, -1));
        DUE.is("none", x.output(-1), 0);
        DUE.yes("keep none of none", x.spoil(0, -1));
    }

    private static void spoilRefused() {
        Depot x = fresh();
        Help.outputs(x, 1, 2, 3);
        int[][] wrong = {{4, 0}, {-1, 0}, {0, 256}, {3, 256}, {0, -2}, {3, -2}, {4, -1}, {-1, -1},
            {Integer.MIN_VALUE, 1}, {Integer.MAX_VALUE, 1}, {Integer.MIN_VALUE, -1}, {Integer.MAX_VALUE, -1},
            {0, Integer.MIN_VALUE}, {0, Integer.MAX_VALUE}};
        for (int[] w : wrong) {
            DUE.no("spoil(" + w[0] + ", " + w[1] + ")", x.spoil(w[0], w[1]));
        }
        Help.isOutput(DUE, "not spoilt", x, 1, 2, 3);
    }

    private static void spoilAtMost120() {
        Depot x = fresh();
        for (int i = 0; i < 120; i++) {
            DUE.yes("spoil(" + i + ")", x.spoil(i, i));
        }
        DUE.no("spoil(120)", x.spoil(120, 1));
        DUE.is("output(-1)", x.output(-1), 120);
        DUE.yes("the last", x.spoil(119, 1));
        DUE.is("output(119)", x.output(119), 1);
        DUE.is("output(118)", x.output(118), 118);
    }

    private static void reads(int want, int... bytes) {
        Depot x = fresh();
        Help.outputs(x, bytes);
        DUE.is("unpack() of " + java.util.Arrays.toString(bytes), x.unpack(), want);
        Help.isOutput(DUE, "the output stays", x, bytes);
        if (want >= 0) {
            DUE.is("entries", x.size(0), want);
            DUE.is("stream", x.size(2), bytes.length);
            x.make();
            x.extract(0);
            Help.isOutput(DUE, "the tree's stream", x, bytes);
        } else {
            DUE.is("no entries", x.size(0), 0);
        }
    }

    private static void goodStreams() {
        reads(0, 9, 0);
        reads(1, 1, 1, 0, 9, 1);
        reads(1, 2, 31, 9, 0, 9, 1);
        reads(2, 1, 30, 1, 9, 1, 31, 2, 0, 255, 9, 2);
        reads(3, 2, 5, 1, 1, 1, 1, 1, 31, 0, 9, 2, 9, 1);
        reads(4, 2, 1, 2, 1, 9, 0, 9, 1, 2, 2, 1, 1, 1, 7, 9, 1, 9, 2);
    }

    private static void faults() {
        reads(-1);
        reads(-1, 0, 0);
        reads(-1, 3);
        reads(-1, 10, 0);
        reads(-2, 9);
        reads(-2, 9, 1);
        reads(-3, 9, 0, 0);
        reads(-3, 9, 0, 9, 0);
        reads(-2, 1);
        reads(-2, 1, 0);
        reads(-2, 2, 32);
        reads(-3, 1, 1);
        reads(-3, 1, 1, 17);
        reads(-4, 1, 1, 1);
        reads(-4, 1, 1, 0);
        reads(-5, 1, 1, 1, 9);
        reads(-5, 1, 1, 0, 9);
        reads(-5, 1, 1, 0, 9, 0);
        reads(-5, 1, 1, 0, 9, 2);
        reads(-5, 1, 2, 0, 1, 2, 0, 9, 2);
        reads(-5, 1, 2, 0, 1, 1, 0, 9, 2);
        reads(-5, 1, 31, 0, 1, 31, 0, 9, 2);
        reads(-5, 1, 31, 0, 1, 32, 0, 9, 2);
        reads(-3, 2, 1);
        reads(-4, 2, 1, 9);
        reads(-4, 2, 1, 9, 1, 9, 1);
        reads(-5, 2, 1, 9, 0);
        reads(-6, 2, 3, 9, 0, 2, 3, 9, 0, 9, 2);
        reads(-9, 2, 3, 1, 3, 0, 9, 1, 9, 2);
    }

    private static int[] nested(int depth) {
        int[] bytes = new int[4 * depth + 2];
        for (int d = 0; d < depth; d++) {
            bytes[2 * d] = 2;
            bytes[2 * d + 1] = 1;
        }
        for (int d = 0; d <= depth; d++) {
            bytes[2 * depth + 2 * d] = 9;
            bytes[2 * depth + 2 * d + 1] = d == 0 ? 0 : 1;
        }
        return bytes;
    }

    private static void tooDeep() {
        for (int depth = 0; depth <= 6; depth++) {
            reads(depth, nested(depth));
        }
        reads(-13, nested(7));
        int[] fileAtSix = {2, 1, 2, 1, 2, 1, 2, 1, 2, 1, 1, 1, 1, 5, 9, 1, 9, 1, 9, 1, 9, 1, 9, 1, 9, 1};
        reads(6, fileAtSix);
        int[] fileAtSeven = {2, 1, 2, 1, 2, 1, 2, 1, 2, 1, 2, 1, 1, 1, 0, 9, 1, 9, 1, 9, 1, 9, 1, 9, 1, 9, 1, 9, 1};
        reads(-13, fileAtSeven);
    }

    private static int[] emptyFiles(int n) {
        int[] bytes = new int[3 * n + 2];
        for (int i = 0; i < n; i++) {
            bytes[3 * i] = 1;
            bytes[3 * i + 1] = i + 1;
        }
        bytes[3 * n] = 9;
        bytes[3 * n + 1] = n;
        return bytes;
    }

    private static void tooManyEntries() {
        reads(10, emptyFiles(10));
        reads(-31, emptyFiles(11));
        // Entries of all directories count: one and nine more, and then the eleventh.
        reads(10, 2, 1, 1, 1, 0, 1, 2, 0, 1, 3, 0, 1, 4, 0, 1, 5, 0, 1, 6, 0, 1, 7, 0, 1, 8, 0, 1, 9, 0, 9, 9,
                9, 1);
        reads(-34, 2, 1, 1, 1, 0, 1, 2, 0, 1, 3, 0, 1, 4, 0, 1, 5, 0, 1, 6, 0, 1, 7, 0, 1, 8, 0, 1, 9, 0, 9, 9,
                9, 1, 0, 0, 0);
        reads(-32, 2, 1, 1, 1, 0, 1, 2, 0, 1, 3, 0, 1, 4, 0, 1, 5, 0, 1, 6, 0, 1, 7, 0, 1, 8, 0, 1, 9, 0, 9, 9,
                1, 2, 0, 9, 2);
    }

    private static int[] files(int... lengths) {
        int n = 2;
        for (int length : lengths) {
            n += 3 + length;
        }
        int[] bytes = new int[n];
        int at = 0;
        for (int i = 0; i < lengths.length; i++) {
            bytes[at] = 1;
            bytes[at + 1] = i + 1;
            bytes[at + 2] = lengths[i];
            at += 3;
            for (int k = 0; k < lengths[i]; k++) {
                bytes[at] = 9 + k + i;
                at++;
            }
        }
        bytes[at] = 9;
        bytes[at + 1] = lengths.length;
        return bytes;
    }

    private static void tooManyBytes() {
        reads(1, files(16));
        reads(-3, files(17));
        reads(5, files(16, 16, 16, 16, 16));
        reads(6, files(16, 16, 16, 16, 16, 0));
        reads(6, files(16, 16, 16, 16, 15, 1));
        reads(-98, files(16, 16, 16, 16, 16, 1));
        reads(-97, files(16, 16, 16, 16, 15, 2));
    }

    private static void largestTree() {
        int[] files = files(16, 16, 16, 16, 16);
        int[] bytes = new int[117];
        System.arraycopy(files, 0, bytes, 0, 95);
        for (int i = 0; i < 5; i++) {
            bytes[95 + 4 * i] = 2;
            bytes[96 + 4 * i] = 27 + i;
            bytes[97 + 4 * i] = 9;
        }
        bytes[115] = 9;
        bytes[116] = 10;
        reads(10, bytes);
    }

    private static void treeStaysAtAFault() {
        Depot x = fresh();
        Help.file(x, 4, 1, 2, 3);
        Help.outputs(x, 1, 1, 1, 5, 2, 2, 9, 0, 9, 3);
        DUE.is("the last byte is at fault", x.unpack(), -10);
        DUE.is("entries", x.size(0), 1);
        DUE.is("file bytes", x.size(1), 3);
        DUE.is("the file", x.append(4, 1, 1), 4);
        x.spoil(9, 2);
        DUE.is("good now", x.unpack(), 2);
        DUE.is("the old file is gone", x.append(4, 1, 1), -1);
        DUE.is("the new file", x.append(1, 1, 1), 2);
        DUE.yes("in the new directory", x.create(Help.path(2, 4), 1));
        DUE.is("unpack again", x.unpack(), 2);
        DUE.is("as it was read", x.size(1), 1);
        DUE.is("remove", x.remove(2), 1);
    }

    private static void otherThingsStay() {
        Depot x = fresh();
        Help.file(x, 1, Help.row(16, 0));
        x.make();
        x.seed(0);
        x.extract(0);
        int root = x.root(0);
        int store = x.size(5);
        Help.outputs(x, 9, 0);
        DUE.is("unpack()", x.unpack(), 0);
        DUE.is("the tree is empty", x.size(0), 0);
        DUE.is("image", x.root(0), root);
        DUE.is("store", x.size(5), store);
        DUE.is("extract", x.extract(0), 21);
        DUE.yes("seed", x.alter(0, 20, 1));
    }
}
