/** The edges of the term EXTRACTION and of promises 15 to 17. What is refused is in RefusedTest as well. */
public final class ExtractEdgeTest {
    private static final Due DUE = new Due();

    private ExtractEdgeTest() {
    }

    public static void main(String[] args) {
        againBeforeAllElse();
        againNeedsAsManyBytes();
        againOfTheFirst();
        againOfPieceZero();
        cachedBeforeSeeded();
        cachedNeedsGoodBytes();
        cachedNeedsAsManyBytes();
        seededBeforeAsked();
        seedZeroBeforeSeedOne();
        seededNeedsAsManyBytes();
        seededBytesDoNotComeIntoTheCache();
        secondOfASeedWhenTheFirstIsBad();
        askedWhateverComesOfIt();
        storeNeedsGoodBytes();
        failsAtEachPiece();
        failedOutputIsEmpty();
        failedLeavesTheCache();
        nothingMoreIsDone();
        countsBeginAtZero();
        countsOfNone();
        refusedLeavesCountsAndOutput();
        discardedImage();
        outputOfNone();
        outputOfTheShortestAndTheLongest();
        lastOfAllCalls();
        DUE.end();
    }

    private static Depot eights() {
        return new Depot(8, 8, 8);
    }

    /** Image 0 of pieces 0, 1, 2, of which file 1 has 16 bytes. */
    private static Depot threePieces() {
        Depot x = eights();
        Help.file(x, 1, Help.row(16, 50));
        x.make();
        return x;
    }

    private static void isExtract(String what, Depot x, int image, int answer, int asked, int cached, int seeded, int again) {
        DUE.is(what + ": extract(" + image + ")", x.extract(image), answer);
        Help.isCounts(DUE, what, x, asked, cached, seeded, again);
        DUE.is(what + ": output(-1)", x.output(-1), Math.max(answer, 0));
    }

    /** Files 1, 2, 3 of 13 like bytes: pieces 1, 3 and 5 of seven are alike. */
    private static Depot threeAlike() {
        Depot x = eights();
        for (int name = 1; name <= 3; name++) {
            x.create(name, 1);
            x.append(name, 7, 13);
        }
        x.make();
        return x;
    }

    /** "(1) an earlier piece of the image has the same id and as many bytes" */
    private static void againBeforeAllElse() {
        Depot x = threeAlike();
        DUE.is("ids", x.size(4), 5);
        isExtract("from the store", x, 0, 50, 5, 0, 0, 2);
        isExtract("from the cache", x, 0, 50, 0, 5, 0, 2);
        x.seed(1);
        for (int k = 0; k < 7; k++) {
            x.damage(1, 0, k, -1, 0);
        }
        isExtract("from the seed", x, 0, 50, 0, 0, 5, 2);
        DUE.is("unpack()", x.unpack(), 3);
        DUE.is("file bytes", x.size(1), 39);
    }

    private static void againNeedsAsManyBytes() {
        Depot x = eights();
        Help.unequals(x);
        x.make();
        isExtract("the longer's bytes are kept", x, 0, -6, 5, 0, 0, 0);
        x.seed(0);
        for (int k = 0; k < 5; k++) {
            x.damage(1, 0, k, -1, 0);
        }
        isExtract("both are in the seed", x, 0, 39, 0, 0, 5, 0);
        DUE.is("the longer", x.output(8), Help.LONGER[0]);
        DUE.is("the shorter", x.output(32), Help.SHORTER[0]);
    }

    /** "the bytes of the first such piece are written again" */
    private static void againOfTheFirst() {
        Depot x = eights();
        Help.twins(x);
        x.make();
        x.seed(0);
        isExtract("the second twin is not looked for", x, 0, 40, 0, 0, 4, 1);
        for (int i = 0; i < 8; i++) {
            DUE.is("byte " + i, x.output(24 + i), Help.TWIN[i]);
        }
        x.alter(0, 8, 0);
        isExtract("now it is found for the first", x, 0, 40, 0, 0, 4, 1);
        for (int i = 0; i < 8; i++) {
            DUE.is("byte " + i + " of the first", x.output(8 + i), Help.OTHER_TWIN[i]);
            DUE.is("byte " + i + " of the second", x.output(24 + i), Help.OTHER_TWIN[i]);
        }
    }

    private static void againOfPieceZero() {
        Depot x = eights();
        Help.file(x, 1, 7, 7, 7, 7, 7, 1, 1, 16, 7, 7, 7, 7, 7, 0, 0, 0);
        x.make();
        isExtract("piece 1 is as piece 0", x, 0, 21, 2, 0, 0, 1);
        isExtract("cached but for piece 1", x, 0, 21, 0, 2, 0, 1);
        DUE.is("unpack()", x.unpack(), 1);
        DUE.is("size(2)", x.size(2), 21);
    }

    /** "(2) The cache keeps good bytes under its id: these" */
    private static void cachedBeforeSeeded() {
        Depot x = threePieces();
        x.extract(0);
        x.seed(0);
        x.seed(1);
        isExtract("cached", x, 0, 21, 0, 3, 0, 0);
        for (int k = 0; k < 3; k++) {
            x.damage(0, 0, k, -1, 0);
        }
        isExtract("the store isn't asked", x, 0, 21, 0, 3, 0, 0);
    }

    private static void cachedNeedsGoodBytes() {
        Depot x = threePieces();
        x.extract(0);
        x.damage(1, 0, 1, 7, 0);
        isExtract("one is bad", x, 0, 21, 1, 2, 0, 0);
        isExtract("it came anew", x, 0, 21, 0, 3, 0, 0);
        x.seed(0);
        x.damage(1, 0, 1, 7, 0);
        isExtract("the seed has it", x, 0, 21, 0, 2, 1, 0);
        isExtract("so it stayed bad", x, 0, 21, 0, 2, 1, 0);
        DUE.is("and in the cache", x.size(6), 3);
        DUE.yes("there it is", x.damage(1, 0, 1, -1, 0));
    }

    /** "GOOD for a piece when there are as many as the piece has" */
    private static void cachedNeedsAsManyBytes() {
        Depot x = eights();
        Help.unequals(x);
        x.make();
        x.extract(0);
        isExtract("the cache has the longer", x, 0, -6, 1, 4, 0, 0);
    }

    /** "(3) In seed 0's list, or else in seed 1's" */
    private static void seededBeforeAsked() {
        for (int s = 0; s <= 1; s++) {
            Depot x = threePieces();
            x.seed(s);
            isExtract("from seed " + s, x, 0, 21, 0, 0, 3, 0);
            x.alter(s, 20, 9);
            isExtract("but for the last piece", x, 0, 21, 1, 0, 2, 0);
        }
    }

    private static void seedZeroBeforeSeedOne() {
        int[][] pieces = {Help.TWIN, Help.OTHER_TWIN};
        for (int first = 0; first <= 1; first++) {
            Depot x = eights();
            Help.file(x, 1, Help.laid(Help.row(16, 40), 5, pieces[first]));
            x.seed(0);
            Help.file(x, 1, Help.laid(Help.row(16, 40), 5, pieces[1 - first]));
            x.seed(1);
            x.make();
            isExtract("from seeds", x, 0, 21, 0, 0, 3, 0);
            DUE.is("seed 0's byte", x.output(8), pieces[first][0]);
            x.alter(0, 15, 0);
            isExtract("from seeds", x, 0, 21, 0, 0, 3, 0);
            DUE.is("seed 1's byte", x.output(8), pieces[1 - first][0]);
            x.alter(1, 15, 0);
            isExtract("neither is good", x, 0, 21, 1, 0, 2, 0);
        }
    }

    /** "a piece of the same id and as many bytes" */
    private static void seededNeedsAsManyBytes() {
        Depot x = eights();
        Help.file(x, 1, Help.row(16, 40));
        Help.file(x, 2, Help.laid(Help.row(15, 80), 10, Help.SHORTER));
        x.make();
        x.damage(0, 0, 4, -1, 0);
        Help.file(x, 1, Help.laid(Help.row(16, 40), 5, Help.LONGER));
        x.edit(2, 14, 0);
        x.seed(0);
        x.seed(1);
        isExtract("the seeds have the longer alone", x, 0, -6, 2, 0, 3, 0);
    }

    private static void seededBytesDoNotComeIntoTheCache() {
        Depot x = threePieces();
        x.seed(1);
        isExtract("seeded", x, 0, 21, 0, 0, 3, 0);
        DUE.is("ids in the cache", x.size(6), 0);
        x.alter(1, 0, 9);
        isExtract("one asked", x, 0, 21, 1, 0, 2, 0);
        DUE.is("one id in the cache", x.size(6), 1);
        DUE.is("its bytes", x.size(7), 8);
    }

    /** "whose bytes, as the seed has them now, still have that id: those of the first such piece in the list" */
    private static void secondOfASeedWhenTheFirstIsBad() {
        Depot x = threeAlike();
        x.seed(0);
        isExtract("all", x, 0, 50, 0, 0, 5, 2);
        x.alter(0, 8, 0);
        isExtract("the second", x, 0, 50, 0, 0, 5, 2);
        x.alter(0, 31, 0);
        isExtract("the third", x, 0, 50, 0, 0, 5, 2);
        x.alter(0, 40, 0);
        isExtract("none", x, 0, 50, 1, 0, 4, 2);
    }

    /** "(ASKED grows by 1, whatever comes of it)" */
    private static void askedWhateverComesOfIt() {
        Depot x = threePieces();
        x.damage(0, 0, 0, -1, 0);
        isExtract("nothing is kept", x, 0, -2, 1, 0, 0, 0);
        x = threePieces();
        x.damage(0, 0, 0, 0, 9);
        isExtract("bad bytes are kept", x, 0, -2, 1, 0, 0, 0);
        x = threePieces();
        x.damage(0, 0, 2, -1, 0);
        isExtract("the last one fails", x, 0, -4, 3, 0, 0, 0);
    }

    private static void storeNeedsGoodBytes() {
        for (int at = 0; at < 5; at++) {
            Depot x = threePieces();
            x.damage(0, 0, 2, at, 200);
            isExtract("byte " + at + " is bad", x, 0, -4, 3, 0, 0, 0);
            DUE.is("two came into the cache", x.size(6), 2);
        }
        Depot x = eights();
        Help.unequals(x);
        x.make();
        x.damage(0, 0, 1, -1, 0);
        x.edit(1, 5, 0);
        DUE.is("the shorter is kept now", x.make(), 1);
        isExtract("and is not good for the longer", x, 0, -3, 2, 0, 0, 0);
        isExtract("but for the shorter", x, 1, 39, 4, 1, 0, 0);
    }

    /** "-2 - k when it failed at piece k (from 0)" */
    private static void failsAtEachPiece() {
        for (int k = 0; k < 15; k++) {
            Depot x = States.full();
            // A tree with nothing in it, so that the seeds have nothing either.
            for (int name = 1; name <= 31; name++) {
                x.remove(name);
            }
            x.seed(0);
            x.seed(1);
            x.damage(0, 1, k, -1, 0);
            x.damage(1, 1, k, -1, 0);
            DUE.is("fails at piece " + k, x.extract(1), -2 - k);
            DUE.is("asked and cached up to it", x.counts(0) + x.counts(1), k + 1);
            DUE.is("output", x.output(-1), 0);
        }
    }

    /** "the OUTPUT is empty" */
    private static void failedOutputIsEmpty() {
        Depot x = threePieces();
        x.extract(0);
        x.damage(0, 0, 2, -1, 0);
        x.damage(1, 0, 2, -1, 0);
        DUE.is("output before", x.output(-1), 21);
        isExtract("fails at the last", x, 0, -4, 1, 2, 0, 0);
        DUE.is("output(0)", x.output(0), -2);
        DUE.no("no byte to change", x.spoil(1, 5));
        DUE.is("unpack()", x.unpack(), -1);
        DUE.is("the tree stays", x.size(1), 16);
    }

    /** "what came into the cache stays there" */
    private static void failedLeavesTheCache() {
        Depot x = eights();
        Help.fiveFiles(x);
        x.make();
        x.damage(0, 0, 8, -1, 0);
        isExtract("fails at piece 8", x, 0, -10, 9, 0, 0, 0);
        DUE.is("six ids", x.size(6), 6);
        DUE.is("48 bytes", x.size(7), 48);
        for (int k = 0; k < 9; k++) {
            DUE.is("piece " + k + " in the cache", x.damage(1, 0, k, -1, 0) ? 1 : 0, k >= 2 && k < 8 ? 1 : 0);
        }
    }

    /** "nothing more is done" */
    private static void nothingMoreIsDone() {
        Depot x = threePieces();
        x.damage(0, 0, 0, -1, 0);
        isExtract("fails at piece 0", x, 0, -2, 1, 0, 0, 0);
        DUE.is("no id in the cache", x.size(6), 0);
        x.seed(0);
        x.alter(0, 0, 9);
        isExtract("nor is a seed looked at", x, 0, -2, 1, 0, 0, 0);
    }

    /** "AGAIN, CACHED, SEEDED, ASKED begin at 0 in each extraction" */
    private static void countsBeginAtZero() {
        Depot x = States.rich();
        Help.isCounts(DUE, "all four", x, 1, 3, 3, 1);
        for (int name = 1; name <= 6; name++) {
            x.remove(name);
        }
        DUE.is("make()", x.make(), 2);
        isExtract("asked alone", x, 2, 2, 1, 0, 0, 0);
        isExtract("cached alone", x, 2, 2, 0, 1, 0, 0);
        x.damage(1, 2, 0, -1, 0);
        x.seed(1);
        isExtract("seeded alone", x, 2, 2, 0, 0, 1, 0);
    }

    /** "-1 for any other number" */
    private static void countsOfNone() {
        Depot x = States.rich();
        int[] none = {Integer.MIN_VALUE, -2, -1, 4, 5, 256, Integer.MAX_VALUE};
        for (int what : none) {
            DUE.is("counts(" + what + ")", x.counts(what), -1);
        }
        Help.isCounts(DUE, "0 to 3", x, 1, 3, 3, 1);
    }

    /** "as the latest extraction that was not refused (it may have failed) left it" */
    private static void refusedLeavesCountsAndOutput() {
        Depot x = States.rich();
        int[] none = {Integer.MIN_VALUE, -1, 2, 3, 4, Integer.MAX_VALUE};
        for (int image : none) {
            DUE.is("extract(" + image + ")", x.extract(image), -1);
        }
        Help.isCounts(DUE, "as before", x, 1, 3, 3, 1);
        DUE.is("output as before", x.output(-1), 61);
        DUE.is("spoilt as before", x.output(0), 3);
        x = States.failed();
        DUE.is("extract(2)", x.extract(2), -1);
        Help.isCounts(DUE, "as the failed one left them", x, 1, 2, 3, 0);
    }

    private static void discardedImage() {
        Depot x = threePieces();
        x.extract(0);
        x.discard(0);
        DUE.is("extract(0)", x.extract(0), -1);
        DUE.is("output(-1)", x.output(-1), 21);
        Help.isCounts(DUE, "as before", x, 3, 0, 0, 0);
    }

    /** "for i = -1 how many bytes it has; -2 when there is no such byte" */
    private static void outputOfNone() {
        Depot x = States.full();
        int[] none = {Integer.MIN_VALUE, -3, -2, 120, 121, 256, Integer.MAX_VALUE};
        for (int i : none) {
            DUE.is("output(" + i + ")", x.output(i), -2);
        }
        DUE.is("output(-1)", x.output(-1), 120);
        DUE.is("output(119)", x.output(119), 119);
        DUE.is("output(0)", x.output(0), 1);
        x = States.empty();
        DUE.is("empty: output(-1)", x.output(-1), 0);
        DUE.is("empty: output(0)", x.output(0), -2);
        DUE.is("empty: output(-2)", x.output(-2), -2);
    }

    private static void outputOfTheShortestAndTheLongest() {
        Depot x = eights();
        x.make();
        isExtract("two bytes", x, 0, 2, 1, 0, 0, 0);
        Help.isOutput(DUE, "two bytes", x, 9, 0);
        DUE.is("output(2)", x.output(2), -2);
        x = States.full();
        DUE.is("extract(3)", x.extract(3), 117);
        DUE.is("output(-1)", x.output(-1), 117);
        DUE.is("output(116)", x.output(116), 5);
        DUE.is("output(117)", x.output(117), -2);
    }

    /** "An object is used for at most 512 calls after it has been made": the last of them answers as the first does. */
    private static void lastOfAllCalls() {
        Depot x = threePieces();
        int root = x.root(0);
        while (x.callsLeft() > 6) {
            x.extract(0);
            x.unpack();
            x.make();
            x.discard(1);
            x.seed(0);
            x.edit(1, 0, 50);
        }
        while (x.callsLeft() > 1) {
            DUE.is("one of the last: root(0)", x.root(0), root);
        }
        DUE.is("the last: extract(0)", x.extract(0), 21);
    }
}
