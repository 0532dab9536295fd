import java.util.ArrayList;
import java.util.Arrays;
import java.util.List;

/** The edges of the terms PIECES and IMAGES and of promises 6 to 10. What is refused is in RefusedTest as well. */
public final class ImageEdgeTest {
    private static final Due DUE = new Due();

    private ImageEdgeTest() {
    }

    public static void main(String[] args) {
        endAtTheLastByteOfAll();
        endAtMost();
        endAtMarkFromLeastOn();
        markCountsFromThePieceOn();
        markOfAnyOf32Bits();
        lastByteAndMostAtOnce();
        noBytesNoPieces();
        idsThatWrap();
        rootOfOneToFifteenPieces();
        rootOfNone();
        pieceOfNone();
        imageKeepsWhatWas();
        leastNumberThatNoImageHas();
        fourImages();
        idsThatTheStoreKeeps();
        fortyIds();
        idsToComeAreCountedOnce();
        fourImagesBeforeFortyIds();
        storeStaysAtDiscard();
        collectLooksAtAllImages();
        collectOfAFullStore();
        collectDoesNotLookAtBytes();
        DUE.end();
    }

    private static Depot eights() {
        return new Depot(8, 8, 8);
    }

    private static void isEnds(String what, Depot x, int image, int... ends) {
        for (int k = 0; k < ends.length; k++) {
            DUE.is(what + ": end of piece " + k, x.piece(image, k) >> 32, ends[k]);
        }
        DUE.is(what + ": behind the last piece", x.piece(image, ends.length), -1);
    }

    /** A stream of 21 bytes, marked at the wanted places alone, ends here. */
    private static void isCut(int[] numbers, int[] wanted, int... ends) {
        for (boolean high : new boolean[] {false, true}) {
            Depot x = new Depot(numbers[0], numbers[1], numbers[2]);
            Cuts.file(x, Cuts.marked(numbers[1], high, wanted));
            x.make();
            String what = Arrays.toString(numbers) + " marked at " + Arrays.toString(wanted);
            isEnds(what + (high ? ", high" : ", low"), x, 0, ends);
        }
    }

    private static int[] at(int... places) {
        return places;
    }

    /** "a piece ends behind its n-th byte when that is the last byte of all" */
    private static void endAtTheLastByteOfAll() {
        isCut(at(8, 8, 32), at(), 21);
        isCut(at(8, 8, 20), at(), 20, 21);
        isCut(at(8, 8, 32), at(19), 19, 21);
        isCut(at(32, 32, 32), at(), 21);
        Depot x = eights();
        x.make();
        isEnds("two bytes", x, 0, 2);
    }

    /** "or n = MOST" */
    private static void endAtMost() {
        isCut(at(8, 8, 12), at(), 12, 21);
        isCut(at(8, 8, 12), at(12), 12, 21);
        isCut(at(8, 8, 12), at(13), 12, 21);
        isCut(at(8, 8, 12), at(11), 11, 21);
        isCut(at(8, 8, 10), at(), 10, 20, 21);
        isCut(at(8, 8, 8), at(), 8, 16, 21);
        isCut(at(20, 20, 20), at(8, 16), 20, 21);
    }

    /** "or n >= LEAST and MARK % MEAN = MEAN - 1" */
    private static void endAtMarkFromLeastOn() {
        isCut(at(8, 8, 32), at(7), 21);
        isCut(at(8, 8, 32), at(4, 5, 6, 7), 21);
        isCut(at(8, 8, 32), at(8), 8, 21);
        isCut(at(8, 8, 32), at(9), 9, 21);
        isCut(at(9, 9, 32), at(8), 21);
        isCut(at(9, 9, 32), at(9), 9, 21);
        isCut(at(12, 31, 32), at(11), 21);
        isCut(at(12, 31, 32), at(12), 12, 21);
        isCut(at(12, 32, 32), at(12), 12, 21);
    }

    private static void markCountsFromThePieceOn() {
        isCut(at(8, 8, 32), at(8, 15), 8, 21);
        isCut(at(8, 8, 32), at(8, 16), 8, 16, 21);
        isCut(at(8, 8, 32), at(8, 9, 10, 11, 12, 13, 14, 15), 8, 21);
        isCut(at(8, 8, 9), at(16), 9, 18, 21);
        isCut(at(8, 8, 9), at(17), 9, 17, 21);
    }

    /** ">>> 1": the mark is a number without a sign, and its lowest bit is no part of it. */
    private static void markOfAnyOf32Bits() {
        for (int mean = 8; mean <= 32; mean++) {
            isCut(at(8, mean, 32), at(10), 10, 21);
            isCut(at(8, mean, 32), at(9, 18), 9, 18, 21);
        }
    }

    private static void lastByteAndMostAtOnce() {
        isCut(at(8, 8, 21), at(), 21);
        isCut(at(21, 21, 21), at(), 21);
        isCut(at(8, 8, 11), at(10), 10, 21);
        Depot x = eights();
        Help.file(x, 1, Help.row(11, 0));
        x.make();
        isEnds("sixteen bytes", x, 0, 8, 16);
        x.append(1, 0, 1);
        x.make();
        isEnds("seventeen bytes", x, 1, 8, 16, 17);
    }

    /** "No bytes, no pieces." */
    private static void noBytesNoPieces() {
        Depot x = eights();
        DUE.is("scan(0)", x.scan(0), 0);
        DUE.is("scan(1)", x.scan(1), 0);
    }

    /** "All this is int arithmetic that wraps", "the id taken as a number 0 .. 2^32 - 1" */
    private static void idsThatWrap() {
        Depot x = eights();
        Help.file(x, 1, Help.row(16, 0));
        int high = 0;
        for (int v = 0; v < 40; v++) {
            x.edit(1, 0, v);
            x.edit(1, 15, 255 - v);
            x.make();
            int first = Help.id(1, 1, 16, v, 1, 2, 3, 4);
            int last = Help.id(13, 14, 255 - v, 9, 1);
            DUE.is("piece 0 with " + v, x.piece(0, 0), 8 * 4294967296L + (first & 4294967295L));
            DUE.is("piece 2 with " + v, x.piece(0, 2), 21 * 4294967296L + (last & 4294967295L));
            high += first < 0 ? 1 : 0;
            x.discard(0);
            x.collect();
        }
        DUE.yes("ids of both halves were there", high > 0 && high < 40);
    }

    private static int rootOf(List<Integer> ids) {
        if (ids.size() == 1) {
            return ids.get(0);
        }
        List<Integer> joined = new ArrayList<>();
        for (int i = 0; i + 1 < ids.size(); i += 2) {
            int q = ids.get(i + 1);
            joined.add(ids.get(i) * 31 + q ^ q >>> 7);
        }
        if (ids.size() % 2 == 1) {
            joined.add(ids.get(ids.size() - 1));
        }
        return rootOf(joined);
    }

    private static void isRoot(Depot x, boolean[] seen) {
        x.make();
        List<Integer> ids = new ArrayList<>();
        for (long piece = x.piece(0, 0); piece != -1; piece = x.piece(0, ids.size())) {
            ids.add((int) piece);
        }
        DUE.is("root of " + ids.size() + " pieces", x.root(0), rootOf(ids));
        seen[ids.size()] = true;
        x.discard(0);
        x.collect();
    }

    /** "as long as there is more than one", "a last one that has none behind it stays" */
    private static void rootOfOneToFifteenPieces() {
        Depot x = eights();
        boolean[] seen = new boolean[16];
        isRoot(x, seen);
        for (int name = 1; name <= 5; name++) {
            x.create(name, 1);
            for (int n : new int[] {5, 5, 6}) {
                x.append(name, 50 * name + n, n);
                isRoot(x, seen);
            }
        }
        for (int name = 6; name <= 10; name++) {
            x.create(name, 2);
            isRoot(x, seen);
        }
        for (int n = 1; n <= 15; n++) {
            DUE.yes("there was one of " + n + " pieces", seen[n]);
        }
    }

    /** "0 when there is none of that number" */
    private static void rootOfNone() {
        Depot x = States.full();
        x.discard(2);
        int[] none = {Integer.MIN_VALUE, -1, 2, 4, 256, Integer.MAX_VALUE};
        for (int image : none) {
            DUE.is("root(" + image + ")", x.root(image), 0);
        }
        DUE.no("root(3) is there", x.root(3) == 0);
    }

    /** "-1 when there is no such image or piece" */
    private static void pieceOfNone() {
        Depot x = States.full();
        x.discard(2);
        int[] none = {Integer.MIN_VALUE, -1, 2, 4, 256, Integer.MAX_VALUE};
        for (int image : none) {
            DUE.is("piece(" + image + ", 0)", x.piece(image, 0), -1);
        }
        int[] noPiece = {Integer.MIN_VALUE, -1, 15, 16, 256, Integer.MAX_VALUE};
        for (int k : noPiece) {
            DUE.is("piece(3, " + k + ")", x.piece(3, k), -1);
        }
        DUE.is("piece(3, 14)", x.piece(3, 14) >> 32, 117);
    }

    /** "the ends and ids of all pieces of the stream as it was when the image was made" */
    private static void imageKeepsWhatWas() {
        Depot x = eights();
        Help.fiveFiles(x);
        x.make();
        int root = x.root(0);
        long last = x.piece(0, 12);
        x.edit(1, 0, 99);
        x.remove(5);
        x.create(9, 2);
        DUE.is("root(0) behind edit", x.root(0), root);
        DUE.is("piece(0, 12) behind remove", x.piece(0, 12), last);
        x.make();
        x.discard(1);
        DUE.is("root(0) behind another image", x.root(0), root);
        DUE.is("extract(0)", x.extract(0), 97);
        DUE.is("unpack()", x.unpack(), 5);
        DUE.is("make()", x.make(), 1);
        DUE.is("root(1)", x.root(1), root);
    }

    /** "under the least number that no image has" */
    private static void leastNumberThatNoImageHas() {
        for (int gone = 0; gone < 4; gone++) {
            for (int other = gone; other < 4; other++) {
                Depot x = eights();
                for (int i = 0; i < 4; i++) {
                    DUE.is("make()", x.make(), i);
                }
                x.discard(other);
                x.discard(gone);
                DUE.is("without " + gone + " and " + other, x.make(), gone);
                DUE.is("then", x.make(), gone == other ? -1 : other);
                DUE.is("four images", x.size(3), 4);
            }
        }
    }

    /** "refused with -1 when four images are there" */
    private static void fourImages() {
        Depot x = eights();
        for (int i = 0; i < 4; i++) {
            DUE.is("images", x.size(3), i);
            DUE.is("make()", x.make(), i);
        }
        x.create(1, 1);
        DUE.is("a fifth", x.make(), -1);
        DUE.is("four images", x.size(3), 4);
        DUE.is("its id is not in the store", x.size(4), 1);
        for (int i = 0; i < 4; i++) {
            DUE.is("root(" + i + ")", x.root(i), Help.id(9, 0));
        }
    }

    /** "puts those of its pieces into the store whose ids the store doesn't keep": damaged bytes stay as they are. */
    private static void idsThatTheStoreKeeps() {
        Depot x = eights();
        Help.fiveFiles(x);
        x.make();
        x.damage(0, 0, 12, 0, 4);
        x.damage(0, 0, 11, -1, 0);
        DUE.is("ids", x.size(4), 12);
        DUE.is("make()", x.make(), 1);
        DUE.is("the one that was out came in", x.size(4), 13);
        DUE.is("bytes", x.size(5), 97);
        DUE.is("the damaged one is damaged", x.extract(1), -14);
        DUE.is("asked for all", x.counts(0), 13);
    }

    /** "or else with -2 when the store would keep more than 40 ids" */
    private static void fortyIds() {
        for (int ids = 0; ids <= 3; ids++) {
            Depot x = States.withIdsToCome(ids);
            DUE.is("make() with " + ids + " to come", x.make(), 3);
            DUE.is("ids", x.size(4), 37 + ids);
            DUE.is("extract(3)", x.extract(3), 97);
        }
        Depot x = States.withIdsToCome(4);
        int bytes = x.size(5);
        DUE.is("make() with 4 to come", x.make(), -2);
        DUE.is("images", x.size(3), 3);
        DUE.is("ids", x.size(4), 37);
        DUE.is("bytes", x.size(5), bytes);
        DUE.is("root(3)", x.root(3), 0);
        DUE.is("piece(3, 0)", x.piece(3, 0), -1);
        DUE.is("extract(3)", x.extract(3), -1);
        Help.touch(x, 0, 2);
        DUE.is("make() with 3 to come", x.make(), 3);
        x.discard(0);
        DUE.is("a full store, and nothing to come", x.make(), 0);
        x.discard(0);
        Help.touch(x, 11, 77);
        DUE.is("a full store, and one to come", x.make(), -2);
        DUE.is("collect() makes room", x.collect(), 12);
        DUE.is("make()", x.make(), 0);
        DUE.is("ids now", x.size(4), 29);
    }

    private static void putPiece(Depot x, int k, int... bytes) {
        for (int i = 0; i < 8; i++) {
            int place = 8 * k + i;
            x.edit(1 + place / 19, place % 19 - 3, bytes[i]);
        }
    }

    /** "(of pieces with one id, the first)": two new pieces with one id are one id more. */
    private static void idsToComeAreCountedOnce() {
        Depot x = States.withIdsToCome(0);
        Help.touchFirst(x, 2, 70);
        DUE.is("39 ids", x.make(), 3);
        DUE.is("ids", x.size(4), 39);
        x.discard(0);
        putPiece(x, 1, Help.TWIN);
        putPiece(x, 3, Help.OTHER_TWIN);
        DUE.is("40 ids", x.make(), 0);
        DUE.is("ids now", x.size(4), 40);
        DUE.is("one id", (int) x.piece(0, 1), (int) x.piece(0, 3));
        DUE.is("extract(0)", x.extract(0), 97);
        DUE.is("the first's bytes", x.output(8), Help.TWIN[0]);
        DUE.is("the first's bytes again", x.output(24), Help.TWIN[0]);
        x = States.withIdsToCome(0);
        Help.touchFirst(x, 2, 70);
        x.make();
        x.discard(0);
        putPiece(x, 1, Help.TWIN);
        putPiece(x, 3, Help.LONGER);
        DUE.is("41 ids", x.make(), -2);
    }

    private static void fourImagesBeforeFortyIds() {
        Depot x = States.full();
        x.edit(1, 0, 99);
        DUE.is("both", x.make(), -1);
        x.discard(3);
        DUE.is("40 ids alone", x.make(), -2);
        x.collect();
        DUE.is("neither", x.make(), 3);
    }

    /** "the store stays as it is" */
    private static void storeStaysAtDiscard() {
        Depot x = States.full();
        int bytes = x.size(5);
        for (int i = 0; i < 4; i++) {
            DUE.yes("discard(" + i + ")", x.discard(i));
            DUE.no("discard(" + i + ") again", x.discard(i));
            DUE.is("ids", x.size(4), 40);
            DUE.is("bytes", x.size(5), bytes);
            DUE.is("images", x.size(3), 3 - i);
        }
    }

    /** "that no piece of any image has" */
    private static void collectLooksAtAllImages() {
        for (int left = 0; left < 4; left++) {
            Depot x = eights();
            Help.fiveFiles(x);
            for (int i = 0; i < 4; i++) {
                x.make();
                Help.touch(x, 12 * i / 4, 90 + i);
            }
            for (int i = 0; i < 4; i++) {
                if (i != left) {
                    x.discard(i);
                }
            }
            DUE.is("collect() but for image " + left, x.collect(), 3);
            DUE.is("ids", x.size(4), 13);
            DUE.is("extract(" + left + ")", x.extract(left), 97);
            DUE.is("nothing more", x.collect(), 0);
        }
    }

    private static void collectOfAFullStore() {
        Depot x = States.full();
        DUE.is("all in use", x.collect(), 0);
        for (int i = 0; i < 4; i++) {
            x.discard(i);
        }
        DUE.is("none in use", x.collect(), 40);
        DUE.is("ids", x.size(4), 0);
        DUE.is("bytes", x.size(5), 0);
        DUE.is("the cache stays", x.size(6), 6);
        DUE.is("of an empty store", x.collect(), 0);
    }

    private static void collectDoesNotLookAtBytes() {
        Depot x = eights();
        Help.fiveFiles(x);
        x.make();
        x.damage(0, 0, 3, 0, 255);
        x.damage(0, 0, 4, -1, 0);
        DUE.is("a damaged one is still in use", x.collect(), 0);
        DUE.is("ids", x.size(4), 12);
    }
}
