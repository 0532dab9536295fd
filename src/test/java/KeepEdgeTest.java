/** The edges of the term STORE and CACHE and of promise 11. What is refused is in RefusedTest as well. */
public final class KeepEdgeTest {
    private static final Due DUE = new Due();

    private KeepEdgeTest() {
    }

    public static void main(String[] args) {
        sixIdsStay();
        theSeventhPushesOutTheOldest();
        useIsNoNewTurn();
        bytesAnewAreNoNewTurn();
        outAndInIsANewTurn();
        aFreePlacePushesNothingOut();
        badBytesComeInNever();
        firstAndLastByteOfAPiece();
        bytesZeroAnd255();
        theSameByteAgain();
        takeOutWhateverTheNumber();
        takeOutFirstMiddleLast();
        storeAndCacheApart();
        oneIdOfManyPieces();
        placeOfAByteKeptThere();
        cacheOfAnotherLength();
        damageAloneChangesBytes();
        DUE.end();
    }

    private static Depot eights() {
        return new Depot(8, 8, 8);
    }

    /** Files 1 and 2 of 16 bytes and file 3 of the rest: a stream of 43 bytes and the rest, image 0 of it. */
    private static Depot withRest(int rest) {
        Depot x = eights();
        for (int name = 1; name <= 3; name++) {
            x.create(name, 1);
            x.append(name, 60 * name, name < 3 ? 16 : rest);
        }
        x.make();
        return x;
    }

    /** Image 0 of six pieces, all of them in the cache, the first for the longest time. */
    private static Depot sixCached() {
        Depot x = withRest(5);
        x.extract(0);
        return x;
    }

    /** Which of the first pieces of image 0 the cache has; this empties the cache of them. */
    private static void isCached(String what, Depot x, String pieces) {
        StringBuilder got = new StringBuilder();
        for (int k = 0; x.piece(0, k) != -1; k++) {
            got.append(x.damage(1, 0, k, -1, 0) ? "x" : ".");
        }
        DUE.yes(what + ": cached " + got + ", due is " + pieces, got.toString().equals(pieces));
    }

    /** An image with one id comes and goes, and the id stays in the cache. */
    private static void pushOne(Depot x, int name) {
        for (int other = 1; other <= 31; other++) {
            x.remove(other);
        }
        x.create(name, 2);
        int image = x.make();
        DUE.is("six bytes come in", x.extract(image), 6);
        Help.isCounts(DUE, "pushed", x, 1, 0, 0, 0);
        x.discard(image);
    }

    /** "the cache at most 6" */
    private static void sixIdsStay() {
        Depot x = sixCached();
        Help.isCounts(DUE, "six asked", x, 6, 0, 0, 0);
        DUE.is("six ids", x.size(6), 6);
        DUE.is("48 bytes", x.size(7), 48);
        x.extract(0);
        Help.isCounts(DUE, "six cached", x, 0, 6, 0, 0);
        isCached("six pieces", x, "xxxxxx");
    }

    /** "when the cache has 6 and another id comes in, the one that has been in it for the longest time goes out" */
    private static void theSeventhPushesOutTheOldest() {
        Depot x = withRest(6);
        x.extract(0);
        Help.isCounts(DUE, "seven asked", x, 7, 0, 0, 0);
        DUE.is("six ids", x.size(6), 6);
        DUE.is("41 bytes", x.size(7), 41);
        isCached("seven pieces", x, ".xxxxxx");
        for (int n = 1; n <= 6; n++) {
            x = sixCached();
            for (int name = 1; name <= n; name++) {
                pushOne(x, name);
            }
            DUE.is("six ids", x.size(6), 6);
            DUE.is("bytes", x.size(7), 48 - 2 * n);
            isCached(n + " came in", x, "......xxxxxx".substring(6 - n, 12 - n));
        }
    }

    private static void useIsNoNewTurn() {
        Depot x = sixCached();
        x.extract(0);
        x.extract(0);
        x.damage(1, 0, 0, 0, 1);
        pushOne(x, 1);
        isCached("the oldest goes, though used last", x, ".xxxxx");
    }

    /** "if the cache keeps other bytes under it, they take their place without change of turn" */
    private static void bytesAnewAreNoNewTurn() {
        for (int k = 0; k < 6; k++) {
            Depot x = sixCached();
            x.damage(1, 0, k, 0, 255);
            x.extract(0);
            Help.isCounts(DUE, "piece " + k + " asked for", x, 1, 5, 0, 0);
            DUE.is("six ids", x.size(6), 6);
            DUE.is("48 bytes", x.size(7), 48);
            x.extract(0);
            Help.isCounts(DUE, "piece " + k + " is good again", x, 0, 6, 0, 0);
            for (int name = 1; name <= 3; name++) {
                pushOne(x, name);
            }
            isCached("anew " + k, x, "...xxx");
        }
    }

    private static void outAndInIsANewTurn() {
        Depot x = sixCached();
        x.damage(1, 0, 1, -1, 0);
        x.extract(0);
        Help.isCounts(DUE, "piece 1 asked for", x, 1, 5, 0, 0);
        for (int name = 1; name <= 5; name++) {
            pushOne(x, name);
        }
        isCached("piece 1 came last", x, ".x....");
    }

    private static void aFreePlacePushesNothingOut() {
        for (int k = 0; k < 6; k++) {
            Depot x = sixCached();
            x.damage(1, 0, k, -1, 0);
            pushOne(x, 1);
            DUE.is("six ids", x.size(6), 6);
            isCached("without " + k, x, new StringBuilder("xxxxxx").replace(k, k + 1, ".").toString());
        }
    }

    /** "and keeps good bytes under the id: these; they also come into the cache" */
    private static void badBytesComeInNever() {
        Depot x = withRest(5);
        x.damage(0, 0, 2, 0, 255);
        DUE.is("fails at piece 2", x.extract(0), -4);
        isCached("bad bytes", x, "xx....");
        x = sixCached();
        x.damage(0, 0, 2, 0, 255);
        x.damage(1, 0, 2, 1, 255);
        DUE.is("both are bad", x.extract(0), -4);
        x.damage(0, 0, 2, -1, 0);
        DUE.is("one is bad, one is out", x.extract(0), -4);
        DUE.is("the cache is as it was", x.size(7), 48);
        isCached("bad bytes stay", x, "xxxxxx");
    }

    /** "otherwise byte at (from 0) becomes v", "at is neither -1 nor the place of a byte kept there" */
    private static void firstAndLastByteOfAPiece() {
        int[] lengths = {8, 8, 8, 8, 8, 8, 1};
        for (int where = 0; where <= 1; where++) {
            // Piece 0 is the one that is not in the cache.
            for (int k = where; k < 7; k++) {
                for (int at = 0; at < lengths[k]; at++) {
                    Depot x = withRest(6);
                    x.extract(0);
                    DUE.yes("byte " + at + " of piece " + k, x.damage(where, 0, k, at, 255));
                    DUE.no("behind the last byte", x.damage(where, 0, k, lengths[k], 255));
                    DUE.no("before the first byte", x.damage(where, 0, k, -2, 255));
                    x.damage(1 - where, 0, k, -1, 0);
                    if (k > 0) {
                        seedPieceZero(x);
                    }
                    DUE.is("piece " + k + " is bad in " + where, x.extract(0), -2 - k);
                }
            }
        }
    }

    /** Of seven pieces, the seed gives the one that would push others out of the cache. */
    private static void seedPieceZero(Depot x) {
        x.seed(0);
        for (int k = 1; k < 7; k++) {
            x.alter(0, 8 * k, 254);
        }
    }

    /** "or at is not -1 and v is not 0 .. 255" */
    private static void bytesZeroAnd255() {
        for (int where = 0; where <= 1; where++) {
            Depot x = sixCached();
            DUE.yes("v 0", x.damage(where, 0, 0, 3, 0));
            DUE.yes("v 255", x.damage(where, 0, 0, 3, 255));
            DUE.no("v -1", x.damage(where, 0, 0, 3, -1));
            DUE.no("v 256", x.damage(where, 0, 0, 3, 256));
            DUE.no("v as it was, 256 more", x.damage(where, 0, 0, 3, 60 + 256));
            DUE.yes("v as it was", x.damage(where, 0, 0, 3, 60));
            x.damage(1 - where, 0, 0, -1, 0);
            DUE.is("good again", x.extract(0), 48);
        }
    }

    private static void theSameByteAgain() {
        Depot x = sixCached();
        DUE.yes("the store's byte", x.damage(0, 0, 0, 0, 1));
        DUE.yes("the cache's byte", x.damage(1, 0, 0, 0, 1));
        DUE.is("extract(0)", x.extract(0), 48);
        Help.isCounts(DUE, "nothing is bad", x, 0, 6, 0, 0);
    }

    /** "at = -1 takes it out (v is not looked at)" */
    private static void takeOutWhateverTheNumber() {
        int[] values = {Integer.MIN_VALUE, -1, 0, 255, 256, Integer.MAX_VALUE};
        for (int k = 0; k < 6; k++) {
            Depot x = sixCached();
            for (int where = 0; where <= 1; where++) {
                DUE.yes("out with v " + values[k], x.damage(where, 0, k, -1, values[k]));
                DUE.no("it is out", x.damage(where, 0, k, -1, values[k]));
                DUE.no("no byte is left", x.damage(where, 0, k, 0, 1));
                DUE.is("five ids", x.size(where == 0 ? 4 : 6), 5);
                DUE.is("40 bytes", x.size(where == 0 ? 5 : 7), 40);
            }
            DUE.is("piece " + k + " is nowhere", x.extract(0), -2 - k);
        }
    }

    private static void takeOutFirstMiddleLast() {
        for (int k = 0; k < 6; k++) {
            Depot x = withRest(5);
            x.damage(0, 0, k, -1, 0);
            DUE.is("fails at piece " + k, x.extract(0), -2 - k);
            DUE.is("make() puts it in again", x.make(), 1);
            DUE.is("six ids", x.size(4), 6);
            DUE.is("extract(0)", x.extract(0), 48);
            Help.isCounts(DUE, "the others were good", x, 6 - k, k, 0, 0);
        }
    }

    private static void storeAndCacheApart() {
        Depot x = sixCached();
        for (int k = 0; k < 6; k++) {
            x.damage(0, 0, k, 0, 255);
        }
        DUE.is("the cache's bytes are its own", x.extract(0), 48);
        Help.isCounts(DUE, "all cached", x, 0, 6, 0, 0);
        x = sixCached();
        for (int k = 0; k < 6; k++) {
            x.damage(1, 0, k, 0, 255);
        }
        DUE.is("the store's bytes are its own", x.extract(0), 48);
        Help.isCounts(DUE, "all asked for", x, 6, 0, 0, 0);
        DUE.yes("a store's byte", x.damage(0, 0, 0, 0, 255));
        DUE.is("what came anew is the cache's own too", x.extract(0), 48);
    }

    /** "each id at most once" */
    private static void oneIdOfManyPieces() {
        Depot x = States.rich();
        DUE.yes("piece 4 of image 1 is piece 6 of image 0", x.damage(0, 1, 4, -1, 0));
        DUE.no("so that one is out too", x.damage(0, 0, 6, -1, 0));
        DUE.yes("in the cache as well", x.damage(1, 0, 6, -1, 0));
        DUE.no("it was there once", x.damage(1, 1, 4, -1, 0));
    }

    /** "the place of a byte kept there": bytes of another length may be kept under the piece's id. */
    private static void placeOfAByteKeptThere() {
        Depot x = eights();
        Help.unequals(x);
        x.make();
        DUE.is("piece 4 ends at 39", x.piece(0, 4) >> 32, 39);
        DUE.yes("byte 7, though the piece has seven", x.damage(0, 0, 4, 7, 1));
        DUE.no("byte 8", x.damage(0, 0, 4, 8, 1));
    }

    /** "take their place": bytes of another length as well, and nothing else goes out. */
    private static void cacheOfAnotherLength() {
        Depot x = eights();
        Help.unequals(x);
        x.make();
        DUE.is("the longer is kept, the shorter is not", x.extract(0), -6);
        DUE.is("four ids in the cache", x.size(6), 4);
        x.damage(0, 0, 1, -1, 0);
        x.edit(1, 5, 0);
        DUE.is("an image without the longer", x.make(), 1);
        DUE.is("extract(1)", x.extract(1), 39);
        Help.isCounts(DUE, "the changed and the shorter one are asked for", x, 2, 3, 0, 0);
        DUE.is("five ids in the cache", x.size(6), 5);
        DUE.is("bytes in the cache", x.size(7), 39);
        DUE.yes("the shorter one's last byte", x.damage(1, 0, 1, 6, 1));
        DUE.no("the longer one's last byte", x.damage(1, 0, 1, 7, 1));
    }

    /** "Bytes that are kept under an id are changed by damage() alone, and in the cache as EXTRACTION says." */
    private static void damageAloneChangesBytes() {
        Depot x = sixCached();
        x.damage(0, 0, 2, 0, 255);
        x.damage(1, 0, 2, 1, 255);
        isBadAtPieceTwo("damage()", x);
        DUE.is("the same stream once more", x.make(), 1);
        isBadAtPieceTwo("make()", x);
        DUE.yes("the image goes", x.discard(1));
        isBadAtPieceTwo("discard()", x);
        DUE.is("nothing is collected", x.collect(), 0);
        isBadAtPieceTwo("collect()", x);
        x.edit(1, 13, 1);
        x.append(3, 1, 1);
        DUE.is("a file goes", x.remove(2), 1);
        x.create(2, 2);
        isBadAtPieceTwo("calls on the tree", x);
        x.seed(0);
        x.alter(0, 16, 3);
        x.scan(0);
        isBadAtPieceTwo("calls on a seed", x);
        Help.outputs(x, 9, 0);
        DUE.is("an empty tree", x.unpack(), 0);
        isBadAtPieceTwo("spoil() and unpack()", x);
        DUE.yes("the store's byte as it was", x.damage(0, 0, 2, 0, (60 + 37 * 13) & 255));
        DUE.is("good bytes again", x.extract(0), 48);
        Help.isCounts(DUE, "they took the place of the cache's", x, 1, 5, 0, 0);
        x.extract(0);
        Help.isCounts(DUE, "all cached", x, 0, 6, 0, 0);
    }

    private static void isBadAtPieceTwo(String after, Depot x) {
        DUE.is("bad in store and cache after " + after, x.extract(0), -4);
        Help.isCounts(DUE, "after " + after, x, 1, 2, 0, 0);
        DUE.is("48 bytes in the cache after " + after, x.size(7), 48);
    }
}
