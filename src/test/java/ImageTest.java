/** Promises 6 to 10: make, discard, collect, root, piece. */
public final class ImageTest {
    private static final Due DUE = new Due();

    private ImageTest() {
    }

    public static void main(String[] args) {
        numbersOfImages();
        storeOfAnImage();
        storeIsNotWrittenTwice();
        onlyTheFirstOfOneId();
        fullStore();
        discard();
        collect();
        root();
        piece();
        pieceEndsByMark();
        mostPieces();
        DUE.end();
    }

    private static Depot eights() {
        return new Depot(8, 8, 8);
    }

    private static void numbersOfImages() {
        Depot x = eights();
        for (int i = 0; i < 4; i++) {
            DUE.is("make()", x.make(), i);
        }
        DUE.is("a fifth", x.make(), -1);
        x.discard(2);
        x.discard(1);
        DUE.is("the least free", x.make(), 1);
        DUE.is("the next", x.make(), 2);
        DUE.is("full again", x.make(), -1);
        DUE.is("images", x.size(3), 4);
    }

    private static void storeOfAnImage() {
        Depot x = eights();
        Help.file(x, 1, Help.row(16, 0));
        x.make();
        DUE.is("ids", x.size(4), 3);
        DUE.is("bytes", x.size(5), 21);
        x.edit(1, 0, 200);
        x.make();
        DUE.is("one id more", x.size(4), 4);
        DUE.is("bytes of one more", x.size(5), 29);
        DUE.is("the image is as it was", x.extract(0), 21);
        DUE.is("its byte", x.output(3), 0);
    }

    private static void storeIsNotWrittenTwice() {
        Depot x = eights();
        Help.file(x, 1, Help.row(16, 0));
        x.make();
        x.damage(0, 0, 1, 0, 99);
        x.damage(0, 0, 2, -1, 0);
        x.make();
        DUE.is("a damaged one stays", x.extract(1), -3);
        x.damage(0, 0, 1, -1, 0);
        x.discard(0);
        x.make();
        DUE.is("one taken out comes again", x.extract(1), 21);
    }

    private static void onlyTheFirstOfOneId() {
        Depot x = eights();
        Help.twins(x);
        x.make();
        DUE.is("one id of two pieces", (int) x.piece(0, 1), (int) x.piece(0, 3));
        DUE.is("ids", x.size(4), 4);
        x.extract(0);
        for (int i = 0; i < 8; i++) {
            DUE.is("byte " + i + " of piece 3", x.output(24 + i), Help.TWIN[i]);
        }
        x = eights();
        Help.unequals(x);
        x.make();
        DUE.is("one id of unequal pieces", (int) x.piece(0, 1), (int) x.piece(0, 4));
        DUE.is("unequal: ids", x.size(4), 4);
        DUE.is("unequal: bytes", x.size(5), 32);
    }

    private static void fullStore() {
        Depot x = eights();
        Help.fiveFiles(x);
        for (int i = 0; i < 3; i++) {
            DUE.is("image " + i, x.make(), i);
            DUE.is("ids of image " + i + " and before", x.size(4), 13 + 12 * i);
            Help.touchFirst(x, 12, i + 1);
        }
        DUE.is("49 ids", x.make(), -2);
        Help.touchFirst(x, 12, 2);
        Help.touchFirst(x, 4, 3);
        DUE.is("41 ids", x.make(), -2);
        Help.touch(x, 0, 2);
        DUE.is("40 ids", x.make(), 3);
        DUE.is("ids now", x.size(4), 40);
        DUE.is("four images come before the ids", x.make(), -1);
        x.discard(3);
        DUE.is("no new ids", x.make(), 3);
        x.discard(3);
        Help.touch(x, 0, 3);
        DUE.is("full and one new id", x.make(), -2);
    }

    private static void discard() {
        Depot x = eights();
        DUE.no("none there", x.discard(0));
        x.make();
        int[] none = {-1, 1, 3, 4, Integer.MIN_VALUE, Integer.MAX_VALUE};
        for (int i : none) {
            DUE.no("discard(" + i + ")", x.discard(i));
        }
        DUE.yes("discard(0)", x.discard(0));
        DUE.no("discard(0) again", x.discard(0));
        DUE.is("images", x.size(3), 0);
        DUE.is("the store stays", x.size(4), 1);
        DUE.is("gone: root", x.root(0), 0);
        DUE.is("gone: piece", x.piece(0, 0), -1);
        DUE.is("gone: extract", x.extract(0), -1);
        DUE.no("gone: damage", x.damage(0, 0, 0, -1, 0));
    }

    private static void collect() {
        Depot x = eights();
        Help.file(x, 1, Help.row(16, 0));
        x.make();
        DUE.is("all are in use", x.collect(), 0);
        x.edit(1, 0, 77);
        x.make();
        x.discard(0);
        DUE.is("one is in no image", x.collect(), 1);
        DUE.is("ids left", x.size(4), 3);
        DUE.is("the other image is whole", x.extract(1), 21);
        x.discard(1);
        DUE.is("none is in an image", x.collect(), 3);
        DUE.is("no ids", x.size(4), 0);
        DUE.is("no bytes", x.size(5), 0);
        DUE.is("the cache stays", x.size(6), 3);
        DUE.is("nothing to take", x.collect(), 0);
    }

    private static int joined(int p, int q) {
        return (p * 31 + q) ^ (q >>> 7);
    }

    private static void root() {
        Depot x = eights();
        x.make();
        int empty = Help.id(9, 0);
        DUE.is("of one piece", x.root(0), empty);
        Help.file(x, 1, Help.row(8, 0));
        x.make();
        DUE.is("of two pieces", x.root(1), joined((int) x.piece(1, 0), (int) x.piece(1, 1)));
        Help.file(x, 1, Help.row(16, 0));
        x.make();
        int a = (int) x.piece(2, 0);
        int b = (int) x.piece(2, 1);
        int c = (int) x.piece(2, 2);
        DUE.is("of three pieces", x.root(2), joined(joined(a, b), c));
        x.create(2, 1);
        x.append(2, 100, 16);
        x.create(3, 2);
        x.make();
        int[] p = new int[6];
        for (int k = 0; k < 6; k++) {
            p[k] = (int) x.piece(3, k);
        }
        DUE.is("there is no seventh", x.piece(3, 6), -1);
        DUE.is("of six pieces", x.root(3), joined(joined(joined(p[0], p[1]), joined(p[2], p[3])), joined(p[4], p[5])));
        int[] none = {-1, 4, Integer.MIN_VALUE, Integer.MAX_VALUE};
        for (int i : none) {
            DUE.is("root(" + i + ")", x.root(i), 0);
        }
        x.discard(1);
        DUE.is("of one gone", x.root(1), 0);
        DUE.is("the others stay", x.root(0), empty);
    }

    private static void piece() {
        Depot x = eights();
        Help.file(x, 1, Help.row(8, 5));
        x.make();
        long first = Integer.toUnsignedLong(Help.id(1, 1, 8, 5, 6, 7, 8, 9));
        long second = Integer.toUnsignedLong(Help.id(10, 11, 12, 9, 1));
        DUE.is("piece(0, 0)", x.piece(0, 0), 8 * (1L << 32) + first);
        DUE.is("piece(0, 1)", x.piece(0, 1), 13 * (1L << 32) + second);
        int[] none = {-1, 2, Integer.MIN_VALUE, Integer.MAX_VALUE};
        for (int k : none) {
            DUE.is("piece(0, " + k + ")", x.piece(0, k), -1);
        }
        DUE.is("piece(-1, 0)", x.piece(-1, 0), -1);
        DUE.is("piece(1, 0)", x.piece(1, 0), -1);
        DUE.is("piece(4, 0)", x.piece(4, 0), -1);
        x.edit(1, 0, 200);
        DUE.is("the tree's change is not the image's", x.piece(0, 0), 8 * (1L << 32) + first);
    }

    private static int spread(int x, int k) {
        int t = (x + 1) * -1640531535;
        return t << k | t >>> -k;
    }

    /** Where pieces must end is told here byte by byte, for one long stream and several numbers. */
    private static void pieceEndsByMark() {
        int[][] numbers = {{8, 8, 32}, {8, 9, 20}, {9, 10, 31}, {12, 12, 24}, {16, 20, 32}};
        for (int[] n : numbers) {
            Depot x = new Depot(n[0], n[1], n[2]);
            for (int name = 1; name <= 5; name++) {
                x.create(name, 1);
                x.append(name, 91 * name, 16);
            }
            x.make();
            x.extract(0);
            int start = 0;
            int k = 0;
            for (int end = 1; end <= 97; end++) {
                int mark = end < 4 ? 0 : (spread(x.output(end - 4), 3) ^ spread(x.output(end - 3), 2)
                        ^ spread(x.output(end - 2), 1) ^ spread(x.output(end - 1), 0)) >>> 1;
                int length = end - start;
                if (end == 97 || length == n[2] || (length >= n[0] && mark % n[1] == n[1] - 1)) {
                    DUE.is("end of piece " + k + " with least " + n[0], x.piece(0, k) >> 32, end);
                    start = end;
                    k++;
                }
            }
            DUE.is("no piece behind the last", x.piece(0, k), -1);
        }
    }

    private static void mostPieces() {
        Depot x = eights();
        Help.fiveFiles(x);
        for (int name = 11; name <= 15; name++) {
            x.create(name, 2);
        }
        DUE.is("the longest stream", x.size(2), 117);
        DUE.is("make()", x.make(), 0);
        DUE.is("end of piece 14", x.piece(0, 14) >> 32, 117);
        DUE.is("piece 15", x.piece(0, 15), -1);
        DUE.is("extract(0)", x.extract(0), 117);
        DUE.is("unpack()", x.unpack(), 10);
        DUE.yes("seed(1)", x.seed(1));
        DUE.is("scan(1)", x.scan(1), 15);
        DUE.yes("alter the last byte", x.alter(1, 116, 10));
        DUE.no("alter behind it", x.alter(1, 117, 10));
    }
}
