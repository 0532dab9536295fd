/** The edges of the term SEEDS and of promises 12 to 14. What is refused is in RefusedTest as well. */
public final class SeedEdgeTest {
    private static final Due DUE = new Due();

    private SeedEdgeTest() {
    }

    public static void main(String[] args) {
        noBytesAtFirst();
        seedOfAnEmptyTree();
        seedOfTheLongestStream();
        seedsApart();
        shorterSeed();
        seedKeepsWhatWas();
        firstAndLastByte();
        bytesZeroAnd255();
        alterLeavesTheList();
        scanTakesTheBytesAsTheyAre();
        scanCutsAtOtherPlaces();
        scanOfOneSeedAlone();
        seedCutsAnew();
        DUE.end();
    }

    private static Depot eights() {
        return new Depot(8, 8, 8);
    }

    /** "bytes (none at first), and a list of pieces (none at first)" */
    private static void noBytesAtFirst() {
        for (int s = 0; s <= 1; s++) {
            Depot x = eights();
            DUE.no("alter(" + s + ", 0, 0)", x.alter(s, 0, 0));
            DUE.no("alter(" + s + ", -1, 0)", x.alter(s, -1, 0));
            DUE.is("scan(" + s + ")", x.scan(s), 0);
            x.make();
            x.extract(0);
            Help.isCounts(DUE, "nothing from seed " + s, x, 1, 0, 0, 0);
        }
    }

    private static void seedOfAnEmptyTree() {
        for (int s = 0; s <= 1; s++) {
            Depot x = eights();
            DUE.yes("seed(" + s + ")", x.seed(s));
            x.make();
            x.extract(0);
            Help.isCounts(DUE, "one piece from seed " + s, x, 0, 0, 1, 0);
            DUE.is("scan(" + s + ")", x.scan(s), 1);
            DUE.yes("the second byte", x.alter(s, 1, 0));
            DUE.no("there is no third", x.alter(s, 2, 0));
            DUE.is("the other seed is empty", x.scan(1 - s), 0);
        }
    }

    private static void seedOfTheLongestStream() {
        for (int s = 0; s <= 1; s++) {
            Depot x = States.full();
            DUE.yes("seed(" + s + ")", x.seed(s));
            DUE.is("scan(" + s + ")", x.scan(s), 15);
            DUE.yes("byte 116", x.alter(s, 116, 99));
            DUE.no("byte 117", x.alter(s, 117, 99));
            DUE.is("scan(" + s + ") again", x.scan(s), 15);
        }
    }

    private static void seedsApart() {
        Depot x = eights();
        Help.fiveFiles(x);
        x.seed(0);
        x.remove(1);
        x.seed(1);
        DUE.is("seed 0", x.scan(0), 13);
        DUE.is("seed 1", x.scan(1), 10);
        DUE.yes("byte 77 of seed 1", x.alter(1, 77, 0));
        DUE.no("byte 78 of seed 1", x.alter(1, 78, 0));
        DUE.yes("byte 96 of seed 0", x.alter(0, 96, 5));
        x.seed(0);
        DUE.is("seed 0 anew", x.scan(0), 10);
        x.make();
        x.extract(0);
        Help.isCounts(DUE, "from seed 0, though seed 1 is altered", x, 0, 0, 10, 0);
    }

    /** "Seed s becomes the bytes of the tree's stream": what was longer is gone, list and bytes. */
    private static void shorterSeed() {
        Depot x = eights();
        Help.fiveFiles(x);
        x.make();
        x.seed(0);
        x.remove(4);
        x.remove(5);
        x.seed(0);
        DUE.no("byte 59 is gone", x.alter(0, 59, 0));
        DUE.yes("byte 58 is the last", x.alter(0, 58, 3));
        x.extract(0);
        Help.isCounts(DUE, "seven pieces are as they were", x, 6, 0, 7, 0);
        DUE.is("scan(0)", x.scan(0), 8);
    }

    private static void seedKeepsWhatWas() {
        Depot x = eights();
        Help.fiveFiles(x);
        x.make();
        x.seed(1);
        Help.touchFirst(x, 12, 1);
        x.remove(3);
        x.extract(0);
        Help.isCounts(DUE, "the tree's change is not the seed's", x, 0, 0, 13, 0);
    }

    /** "Byte at (from 0) of seed s becomes v", "the seed has no such byte" */
    private static void firstAndLastByte() {
        for (int at = 0; at < 21; at++) {
            Depot x = eights();
            Help.file(x, 1, Help.row(16, 50));
            x.make();
            x.seed(0);
            DUE.yes("byte " + at, x.alter(0, at, 255));
            DUE.is("extract(0)", x.extract(0), 21);
            Help.isCounts(DUE, "one piece is bad with byte " + at, x, 1, 0, 2, 0);
        }
        Depot x = eights();
        Help.file(x, 1, Help.row(16, 50));
        x.seed(0);
        DUE.no("byte 21", x.alter(0, 21, 255));
        DUE.no("byte -1", x.alter(0, -1, 255));
    }

    /** "or v is not 0 .. 255" */
    private static void bytesZeroAnd255() {
        Depot x = eights();
        Help.file(x, 1, 0, 255);
        x.make();
        x.seed(0);
        DUE.yes("byte 3 is 255", x.alter(0, 3, 255));
        DUE.yes("byte 4 is 0", x.alter(0, 4, 0));
        x.extract(0);
        Help.isCounts(DUE, "bad", x, 1, 0, 0, 0);
        x.damage(1, 0, 0, -1, 0);
        DUE.no("byte 3 is -1", x.alter(0, 3, -1));
        DUE.no("byte 3 is 256", x.alter(0, 3, 256));
        DUE.no("byte 4 is 511", x.alter(0, 4, 511));
        x.extract(0);
        Help.isCounts(DUE, "still bad", x, 1, 0, 0, 0);
        x.damage(1, 0, 0, -1, 0);
        DUE.yes("byte 3 is 0", x.alter(0, 3, 0));
        DUE.yes("byte 4 is 255", x.alter(0, 4, 255));
        x.extract(0);
        Help.isCounts(DUE, "good again", x, 0, 0, 1, 0);
    }

    /** "alter() changes a byte and leaves the list": bytes that the list has under another id are not found. */
    private static void alterLeavesTheList() {
        Depot x = eights();
        Help.file(x, 1, Help.row(16, 50));
        x.seed(0);
        x.edit(1, 15, 99);
        x.make();
        DUE.yes("as the tree's byte", x.alter(0, 18, 99));
        x.extract(0);
        Help.isCounts(DUE, "the list has the old id", x, 1, 0, 2, 0);
        x.damage(1, 0, 2, -1, 0);
        DUE.is("cut anew", x.scan(0), 3);
        x.extract(0);
        Help.isCounts(DUE, "the list has the new id", x, 0, 0, 3, 0);
    }

    /** "Cuts the bytes of seed s as they are now": what was good by the old list is not by the new. */
    private static void scanTakesTheBytesAsTheyAre() {
        Depot x = eights();
        Help.file(x, 1, Help.row(16, 50));
        x.make();
        x.seed(1);
        x.alter(1, 10, 200);
        x.scan(1);
        x.alter(1, 10, 57);
        x.extract(0);
        Help.isCounts(DUE, "the list has the altered id", x, 1, 0, 2, 0);
        x.damage(1, 0, 1, -1, 0);
        x.scan(1);
        x.extract(0);
        Help.isCounts(DUE, "the list is as at first", x, 0, 0, 3, 0);
        DUE.is("the other seed is empty", x.scan(0), 0);
    }

    private static void scanCutsAtOtherPlaces() {
        int[] plain = Cuts.marked(8, false);
        int[] marked = Cuts.marked(8, true, 9, 18);
        Depot x = new Depot(8, 8, 32);
        Cuts.file(x, plain);
        x.seed(0);
        DUE.is("not marked", x.scan(0), 1);
        for (int i = 0; i < 21; i++) {
            x.alter(0, i, marked[i]);
        }
        Cuts.file(x, marked);
        x.make();
        x.extract(0);
        Help.isCounts(DUE, "the list is old", x, 3, 0, 0, 0);
        DUE.is("marked twice", x.scan(0), 3);
        for (int k = 0; k < 3; k++) {
            x.damage(1, 0, k, -1, 0);
        }
        DUE.is("extract(0)", x.extract(0), 21);
        Help.isCounts(DUE, "the list is new", x, 0, 0, 3, 0);
        for (int i = 0; i < 21; i++) {
            x.alter(0, i, plain[i]);
        }
        DUE.is("not marked again", x.scan(0), 1);
    }

    private static void scanOfOneSeedAlone() {
        for (int s = 0; s <= 1; s++) {
            Depot x = eights();
            Help.file(x, 1, Help.row(16, 50));
            x.seed(0);
            x.seed(1);
            x.edit(1, 15, 99);
            x.make();
            x.alter(s, 18, 99);
            DUE.is("scan of the other seed", x.scan(1 - s), 3);
            x.extract(0);
            Help.isCounts(DUE, "seed " + s + " has its old list", x, 1, 0, 2, 0);
            x.damage(1, 0, 2, -1, 0);
            DUE.is("scan(" + s + ")", x.scan(s), 3);
            x.extract(0);
            Help.isCounts(DUE, "seed " + s + " has a new list", x, 0, 0, 3, 0);
        }
    }

    /** "and they are cut" */
    private static void seedCutsAnew() {
        Depot x = new Depot(8, 8, 32);
        Cuts.file(x, Cuts.marked(8, false));
        x.seed(0);
        x.alter(0, 5, 0);
        Cuts.file(x, Cuts.marked(8, false, 8, 16));
        x.seed(0);
        x.make();
        x.extract(0);
        Help.isCounts(DUE, "three pieces from the seed", x, 0, 0, 3, 0);
    }
}
