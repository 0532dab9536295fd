/** Promises 1 to 5: a new object, create, append, edit, remove. */
public final class TreeTest {
    private static final Due DUE = new Due();

    private TreeTest() {
    }

    public static void main(String[] args) {
        newObject();
        piecesOfTheNumbersGiven();
        numbersThatDoNotFit();
        create();
        createAtWhatIsNoPath();
        createAtMostTen();
        append();
        appendRefused();
        edit();
        remove();
        removeRefused();
        DUE.end();
    }

    private static void newObject() {
        Depot x = new Depot(8, 12, 24);
        int[] sizes = {0, 0, 2, 0, 0, 0, 0, 0};
        for (int what = 0; what < sizes.length; what++) {
            DUE.is("new: size(" + what + ")", x.size(what), sizes[what]);
        }
        Help.isCounts(DUE, "new", x, 0, 0, 0, 0);
        DUE.is("new: output(-1)", x.output(-1), 0);
        for (int i = 0; i < 4; i++) {
            DUE.is("new: root(" + i + ")", x.root(i), 0);
            DUE.is("new: extract(" + i + ")", x.extract(i), -1);
        }
        DUE.is("new: scan(0)", x.scan(0), 0);
        DUE.is("new: scan(1)", x.scan(1), 0);
        DUE.is("new: collect()", x.collect(), 0);
    }

    /** Equal bytes in a row never end a piece by their mark here, so the ends tell MOST. */
    private static long firstEnd(int least, int mean, int most) {
        Depot x = new Depot(least, mean, most);
        for (int name = 1; name <= 5; name++) {
            Help.file(x, name, Help.row(16, 16 * name));
        }
        x.make();
        return x.piece(0, 0) >> 32;
    }

    private static void piecesOfTheNumbersGiven() {
        for (int most = 8; most <= 32; most++) {
            DUE.is("first end with (" + most + ", " + most + ", " + most + ")", firstEnd(most, most, most), most);
        }
    }

    /** Many streams cut and joined to one number: other numbers than the same three give another. */
    private static long rootsOfMany(int least, int mean, int most) {
        Depot x = new Depot(least, mean, most);
        for (int name = 1; name <= 5; name++) {
            x.create(name, 1);
            x.append(name, 91 * name, 16);
        }
        long all = 0;
        for (int v = 0; v < 100; v++) {
            x.edit(1 + v % 5, v % 16, 31 * v);
            x.make();
            all = all * 1000003 + x.root(0);
            x.discard(0);
            x.collect();
        }
        return all;
    }

    private static void numbersThatDoNotFit() {
        long usual = rootsOfMany(8, 12, 24);
        int[][] wrong = {{7, 32, 32}, {32, 32, 33}, {32, 31, 32}, {31, 32, 31}, {0, 0, 0}, {-1, -1, -1},
            {Integer.MIN_VALUE, 12, 24}, {32, 32, Integer.MAX_VALUE}, {32, Integer.MIN_VALUE, 32}};
        for (int[] w : wrong) {
            DUE.is("roots with " + w[0] + ", " + w[1] + ", " + w[2], rootsOfMany(w[0], w[1], w[2]), usual);
        }
        int[][] near = {{9, 12, 24}, {8, 11, 24}, {8, 13, 24}, {8, 12, 23}, {8, 12, 25}};
        for (int[] n : near) {
            DUE.no("roots with " + n[0] + ", " + n[1] + ", " + n[2] + " are the usual",
                    rootsOfMany(n[0], n[1], n[2]) == usual);
        }
    }

    private static void create() {
        Depot x = new Depot(8, 12, 24);
        DUE.no("create at the root", x.create(0, 2));
        DUE.no("create below nothing", x.create(Help.path(1, 2), 1));
        DUE.no("kind 0", x.create(1, 0));
        DUE.no("kind 3", x.create(1, 3));
        DUE.no("kind -1", x.create(1, -1));
        DUE.yes("a directory", x.create(1, 2));
        DUE.yes("a file in it", x.create(Help.path(1, 31), 1));
        DUE.no("an entry below a file", x.create(Help.path(1, 31, 1), 1));
        DUE.no("a file where a directory is", x.create(1, 1));
        DUE.no("a file where it is", x.create(Help.path(1, 31), 1));
        DUE.yes("the same name in another directory", x.create(31, 2));
        DUE.is("entries", x.size(0), 3);
        DUE.is("stream", x.size(2), 2 + 4 + 3 + 4);
        x.make();
        x.extract(0);
        Help.isOutput(DUE, "created", x, 2, 1, 1, 31, 0, 9, 1, 2, 31, 9, 0, 9, 2);
    }

    private static void createAtWhatIsNoPath() {
        Depot x = new Depot(8, 12, 24);
        int path = 0;
        for (int k = 0; k < 6; k++) {
            path |= 31 << (5 * k);
            DUE.yes("six deep: create(" + path + ", 2)", x.create(path, 2));
        }
        int[] none = {-1, Integer.MIN_VALUE, Integer.MIN_VALUE | 1, 1 << 30, 1 << 30 | 1, path | 1 << 30,
            path | Integer.MIN_VALUE, 32, Help.path(1, 0, 1), Help.path(0, 31), Help.path(31, 31, 0, 1),
            Help.path(1, 0, 0, 0, 0, 1)};
        for (int p : none) {
            DUE.no("create(" + p + ", 1)", x.create(p, 1));
            DUE.is("append(" + p + ", 1, 1)", x.append(p, 1, 1), -1);
            DUE.no("edit(" + p + ", 0, 1)", x.edit(p, 0, 1));
            DUE.is("remove(" + p + ")", x.remove(p), -1);
        }
        DUE.is("entries", x.size(0), 6);
    }

    private static void createAtMostTen() {
        Depot x = new Depot(8, 12, 24);
        for (int name = 10; name >= 1; name--) {
            DUE.yes("create(" + name + ")", x.create(name, 1 + name % 2));
        }
        DUE.no("an eleventh", x.create(11, 1));
        DUE.no("an eleventh below", x.create(Help.path(1, 1), 1));
        DUE.is("remove(5)", x.remove(5), 1);
        DUE.yes("a tenth again", x.create(11, 1));
        DUE.no("an eleventh again", x.create(5, 1));
    }

    private static void append() {
        Depot x = new Depot(8, 12, 24);
        x.create(3, 1);
        DUE.is("append 3", x.append(3, 250, 3), 3);
        DUE.is("append 1", x.append(3, -1, 1), 4);
        DUE.is("append at the wrap", x.append(3, Integer.MAX_VALUE, 2), 6);
        DUE.is("append to 16", x.append(3, 256, 10), 16);
        DUE.is("file bytes", x.size(1), 16);
        x.make();
        x.extract(0);
        Help.isOutput(DUE, "appended", x, 1, 3, 16, 250, 31, 68, 255, 255, 36,
                0, 37, 74, 111, 148, 185, 222, 3, 40, 77, 9, 1);
    }

    private static void appendRefused() {
        Depot x = new Depot(8, 12, 24);
        x.create(1, 1);
        x.create(9, 2);
        DUE.is("n = 0", x.append(1, 1, 0), -1);
        DUE.is("n = -1", x.append(1, 1, -1), -1);
        DUE.is("n = 17", x.append(1, 1, 17), -1);
        DUE.is("n wraps", x.append(1, 1, Integer.MAX_VALUE), -1);
        DUE.is("to a directory", x.append(9, 1, 1), -1);
        DUE.is("to the root", x.append(0, 1, 1), -1);
        DUE.is("to nothing", x.append(2, 1, 1), -1);
        DUE.is("nothing was added", x.size(1), 0);
        DUE.is("15", x.append(1, 1, 15), 15);
        DUE.is("17 together", x.append(1, 1, 2), -1);
        DUE.is("still 15 and 1", x.append(1, 1, 1), 16);
        for (int name = 2; name <= 5; name++) {
            x.create(name, 1);
            DUE.is("append(" + name + ")", x.append(name, 1, 15), 15);
        }
        x.create(6, 1);
        DUE.is("81 in all", x.append(6, 1, 5), -1);
        DUE.is("80 in all", x.append(6, 1, 4), 4);
        DUE.is("81 in all, by one", x.append(6, 1, 1), -1);
        DUE.is("file bytes", x.size(1), 80);
        x.remove(6);
        DUE.is("room again", x.append(5, 1, 1), 16);
    }

    private static void edit() {
        Depot x = new Depot(8, 12, 24);
        x.create(1, 2);
        int path = Help.path(1, 2);
        x.create(path, 1);
        DUE.no("no byte yet", x.edit(path, 0, 1));
        x.append(path, 0, 3);
        DUE.yes("the first", x.edit(path, 0, -1));
        DUE.yes("the last", x.edit(path, 2, 0x1234));
        DUE.no("behind the last", x.edit(path, 3, 1));
        DUE.no("before the first", x.edit(path, -1, 1));
        DUE.no("of a directory", x.edit(1, 0, 1));
        DUE.no("of the root", x.edit(0, 0, 1));
        DUE.no("of nothing", x.edit(2, 0, 1));
        x.make();
        x.extract(0);
        Help.isOutput(DUE, "edited", x, 2, 1, 1, 2, 3, 255, 37, 0x34, 9, 1, 9, 1);
    }

    private static void remove() {
        Depot x = new Depot(8, 12, 24);
        x.create(2, 2);
        x.create(Help.path(2, 1), 2);
        Help.file(x, Help.path(2, 1, 7), 5, 6);
        x.create(Help.path(2, 3), 1);
        Help.file(x, 1, 8);
        // This one takes a slot before its directory's, if slots are used again.
        DUE.is("a file", x.remove(1), 1);
        x.create(Help.path(2, 1, 9), 1);
        DUE.is("a directory with all below", x.remove(Help.path(2, 1)), 3);
        DUE.is("entries", x.size(0), 2);
        DUE.is("file bytes", x.size(1), 0);
        DUE.is("the rest", x.remove(2), 2);
        DUE.is("stream", x.size(2), 2);
        x.create(2, 2);
        DUE.is("nothing comes back", x.size(0), 1);
        x.create(Help.path(2, 1), 1);
        DUE.is("a new file is empty", x.append(Help.path(2, 1), 1, 1), 1);
    }

    private static void removeRefused() {
        Depot x = new Depot(8, 12, 24);
        x.create(2, 1);
        DUE.is("the root", x.remove(0), -1);
        DUE.is("nothing there", x.remove(1), -1);
        DUE.is("below a file", x.remove(Help.path(2, 2)), -1);
        DUE.is("entries", x.size(0), 1);
    }
}
