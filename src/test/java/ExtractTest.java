/** Promises 15 to 17: extract, counts, output. */
public final class ExtractTest {
    private static final Due DUE = new Due();

    private ExtractTest() {
    }

    public static void main(String[] args) {
        orderOfSources();
        refused();
        failed();
        turnsInTheCache();
        placeWithoutChangeOfTurn();
        firstGoodOfASeed();
        seedsInOrder();
        twinsAgain();
        firstPieceAgain();
        unequalsAreNotAgain();
        damagedIntoTwin();
        output();
        DUE.end();
    }

    private static Depot eights() {
        Depot x = new Depot(8, 8, 8);
        Help.file(x, 1, Help.row(16, 0));
        return x;
    }

    private static void orderOfSources() {
        Depot x = eights();
        x.make();
        DUE.is("first", x.extract(0), 21);
        Help.isCounts(DUE, "from the store", x, 3, 0, 0, 0);
        x.seed(0);
        DUE.is("second", x.extract(0), 21);
        Help.isCounts(DUE, "from the cache before the seed", x, 0, 3, 0, 0);
        x.damage(1, 0, 1, 0, 200);
        DUE.is("third", x.extract(0), 21);
        Help.isCounts(DUE, "from the seed before the store", x, 0, 2, 1, 0);
        x.alter(0, 8, 200);
        DUE.is("fourth", x.extract(0), 21);
        Help.isCounts(DUE, "from the store at last", x, 1, 2, 0, 0);
        DUE.is("counts(-1)", x.counts(-1), -1);
        DUE.is("counts(4)", x.counts(4), -1);
        DUE.is("counts(MIN)", x.counts(Integer.MIN_VALUE), -1);
        DUE.is("counts(MAX)", x.counts(Integer.MAX_VALUE), -1);
    }

    private static void refused() {
        Depot x = eights();
        x.make();
        x.extract(0);
        int[] none = {-1, 1, 3, 4, Integer.MIN_VALUE, Integer.MAX_VALUE};
        for (int i : none) {
            DUE.is("extract(" + i + ")", x.extract(i), -1);
        }
        Help.isCounts(DUE, "counts stay", x, 3, 0, 0, 0);
        DUE.is("output stays", x.output(-1), 21);
    }

    private static void failed() {
        Depot x = eights();
        x.make();
        x.extract(0);
        for (int k = 0; k < 3; k++) {
            x.damage(1, 0, k, -1, 0);
        }
        x.damage(0, 0, 1, 3, 200);
        DUE.is("fails at piece 1", x.extract(0), -3);
        Help.isCounts(DUE, "asked twice", x, 2, 0, 0, 0);
        DUE.is("output is empty", x.output(-1), 0);
        DUE.is("output(0)", x.output(0), -2);
        DUE.is("piece 0 stays in the cache", x.size(6), 1);
        DUE.is("bytes of the cache", x.size(7), 8);
        DUE.is("fails again", x.extract(0), -3);
        Help.isCounts(DUE, "cached once, asked once", x, 1, 1, 0, 0);
        x.damage(0, 0, 0, -1, 0);
        x.damage(1, 0, 0, -1, 0);
        DUE.is("fails at piece 0", x.extract(0), -2);
        Help.isCounts(DUE, "asked once", x, 1, 0, 0, 0);
    }

    /** Two files of 16 and one of 13: seven pieces, one more than the cache keeps. */
    private static Depot sevenPieces() {
        Depot x = eights();
        Help.file(x, 2, Help.row(16, 100));
        Help.file(x, 3, Help.row(10, 200));
        x.make();
        return x;
    }

    private static void turnsInTheCache() {
        Depot x = sevenPieces();
        DUE.is("first", x.extract(0), 53);
        DUE.is("ids in the cache", x.size(6), 6);
        DUE.is("bytes in the cache", x.size(7), 45);
        Help.isCounts(DUE, "seven asked", x, 7, 0, 0, 0);
        DUE.no("piece 0 went out", x.damage(1, 0, 0, -1, 0));
        DUE.is("second", x.extract(0), 53);
        Help.isCounts(DUE, "each pushes out the next", x, 7, 0, 0, 0);
        // Out of turn: piece 3 leaves, so that piece 0 comes in without pushing one out.
        x.damage(1, 0, 3, -1, 0);
        x.damage(0, 0, 3, -1, 0);
        DUE.is("third fails at piece 3", x.extract(0), -5);
        Help.isCounts(DUE, "piece 0 and 3 asked", x, 2, 2, 0, 0);
        DUE.is("six again", x.size(6), 6);
    }

    private static void placeWithoutChangeOfTurn() {
        Depot x = sevenPieces();
        x.extract(0);
        // In the cache now: 1 2 3 4 5 6, the oldest first. Piece 1 gets its bytes anew, and still goes first.
        x.seed(0);
        x.alter(0, 9, 250);
        x.damage(1, 0, 1, 1, 250);
        x.extract(0);
        Help.isCounts(DUE, "piece 1 is asked for", x, 1, 5, 1, 0);
        DUE.is("the cache has six", x.size(6), 6);
        x.alter(0, 0, 250);
        x.extract(0);
        // Piece 0 pushed out piece 1, which then pushed out piece 2.
        Help.isCounts(DUE, "pieces 0 and 1 asked, 2 from the seed", x, 2, 4, 1, 0);
        DUE.no("piece 2 is out", x.damage(1, 0, 2, 0, 0));
        DUE.yes("piece 3 is in", x.damage(1, 0, 3, 0, 0));
    }

    private static void firstGoodOfASeed() {
        Depot x = new Depot(8, 8, 8);
        Help.file(x, 1, Help.laid(Help.row(16, 40), 5, Help.TWIN));
        x.make();
        Help.twins(x);
        x.seed(0);
        x.damage(0, 0, 1, -1, 0);
        x.extract(0);
        DUE.is("the first in the list", x.output(8), Help.TWIN[0]);
        x.alter(0, 8, 0);
        x.extract(0);
        DUE.is("the first that is still good", x.output(8), Help.OTHER_TWIN[0]);
        x.alter(0, 24, 0);
        DUE.is("none is good", x.extract(0), -3);
        x.alter(0, 8, Help.TWIN[0]);
        DUE.is("the first is good again", x.extract(0), 21);
    }

    private static void seedsInOrder() {
        Depot x = new Depot(8, 8, 8);
        int[] one = Help.laid(Help.row(16, 40), 5, Help.TWIN);
        int[] other = Help.laid(Help.row(16, 40), 5, Help.OTHER_TWIN);
        Help.file(x, 1, one);
        x.make();
        x.seed(1);
        Help.file(x, 1, other);
        x.seed(0);
        x.extract(0);
        DUE.is("seed 0 before seed 1", x.output(8), Help.OTHER_TWIN[0]);
        Help.isCounts(DUE, "all from seeds", x, 0, 0, 3, 0);
        x.alter(0, 8, 0);
        x.extract(0);
        DUE.is("or else seed 1", x.output(8), Help.TWIN[0]);
        Help.isCounts(DUE, "all from seeds still", x, 0, 0, 3, 0);
    }

    private static void twinsAgain() {
        Depot x = new Depot(8, 8, 8);
        Help.twins(x);
        x.make();
        x.extract(0);
        Help.isCounts(DUE, "twin again", x, 4, 0, 0, 1);
        for (int i = 0; i < 8; i++) {
            DUE.is("again: byte " + i, x.output(24 + i), Help.TWIN[i]);
        }
        x.extract(0);
        Help.isCounts(DUE, "again before the cache", x, 0, 4, 0, 1);
        DUE.is("unpack", x.unpack(), 2);
    }

    private static void firstPieceAgain() {
        Depot x = new Depot(8, 8, 8);
        Help.file(x, 1, 7, 7, 7, 7, 7, 1, 1, 16, 7, 7, 7, 7, 7, 0, 0, 0);
        x.make();
        DUE.is("piece 1 is as piece 0", (int) x.piece(0, 1), (int) x.piece(0, 0));
        DUE.is("ids", x.size(4), 2);
        DUE.is("extract(0)", x.extract(0), 21);
        Help.isCounts(DUE, "piece 0 again", x, 2, 0, 0, 1);
        Help.isOutput(DUE, "piece 0 again", x, 1, 1, 16, 7, 7, 7, 7, 7, 1, 1, 16, 7, 7, 7, 7, 7, 0, 0, 0, 9, 1);
    }

    private static void unequalsAreNotAgain() {
        Depot x = new Depot(8, 8, 8);
        Help.unequals(x);
        x.make();
        DUE.is("the store's bytes are one too many", x.extract(0), -6);
        Help.isCounts(DUE, "five asked", x, 5, 0, 0, 0);
        x.seed(1);
        DUE.is("the seed has both", x.extract(0), 39);
        Help.isCounts(DUE, "the cache's bytes are one too many", x, 0, 4, 1, 0);
        DUE.is("output(38)", x.output(38), 2);
        DUE.is("output(32)", x.output(32), Help.SHORTER[0]);
        // Now the shorter ones come into the store, and from there in the longer ones' place in the cache.
        x.damage(0, 0, 1, -1, 0);
        x.edit(1, 6, 0);
        DUE.is("make", x.make(), 1);
        x.seed(0);
        x.seed(1);
        x.alter(0, 32, 0);
        x.alter(1, 32, 0);
        DUE.is("extract(1)", x.extract(1), 39);
        DUE.is("asked for the shorter", x.counts(0), 1);
        DUE.is("ids in the cache", x.size(6), 4);
        DUE.is("bytes in the cache", x.size(7), 31);
        DUE.is("the longer is nowhere", x.extract(0), -3);
    }

    private static void damagedIntoTwin() {
        Depot x = new Depot(8, 8, 8);
        Help.twins(x);
        x.make();
        for (int i = 0; i < 8; i++) {
            x.damage(0, 0, 1, i, Help.OTHER_TWIN[i]);
        }
        DUE.is("good by number and id", x.extract(0), 40);
        DUE.is("the twin's byte", x.output(8), Help.OTHER_TWIN[0]);
        DUE.is("and again", x.output(24), Help.OTHER_TWIN[0]);
    }

    private static void output() {
        Depot x = eights();
        DUE.is("empty: output(0)", x.output(0), -2);
        x.make();
        x.extract(0);
        Help.isOutput(DUE, "whole", x, 1, 1, 16, 0, 1, 2, 3, 4, 5, 6, 7, 8, 9, 10, 11, 12, 13, 14, 15, 9, 1);
        int[] none = {-2, 21, 117, 120, Integer.MIN_VALUE, Integer.MAX_VALUE};
        for (int i : none) {
            DUE.is("output(" + i + ")", x.output(i), -2);
        }
        x.remove(1);
        x.discard(0);
        x.collect();
        DUE.is("it stays", x.output(-1), 21);
        x.make();
        x.extract(0);
        Help.isOutput(DUE, "of the empty tree", x, 9, 0);
    }
}
