import java.util.List;

/** The edges of the terms TREE, PATH and STREAM and of promises 1 to 5. What is refused is in RefusedTest as well. */
public final class TreeEdgeTest {
    private static final Due DUE = new Due();
    private static final int MIN = Integer.MIN_VALUE;
    private static final int MAX = Integer.MAX_VALUE;

    private TreeEdgeTest() {
    }

    public static void main(String[] args) {
        numbersThatJustFit();
        numbersThatJustDoNotFit();
        seedsOfANewObject();
        namesOneAndThirtyOne();
        nameOnlyOnceInADirectory();
        tenEntriesWithoutTheRoot();
        tenEntriesInAllDirectories();
        sixNamesDeep();
        firstNameLowest();
        pathOfTheRoot();
        streamOfAnEmptyRoot();
        streamInOrderOfNames();
        emptyFileAndEmptyDirectory();
        createAndParentInTurn();
        fileOfSixteen();
        eightyBytesInAll();
        bytesOfAppendWrap();
        lowestEightBitsOfEdit();
        firstAndLastByteOfEdit();
        removeAllBelow();
        removeInTheMiddle();
        removeMakesRoom();
        DUE.end();
    }

    private static Depot eights() {
        return new Depot(8, 8, 8);
    }

    private static void isStream(String what, Depot x, int... bytes) {
        DUE.is(what + ": size(2)", x.size(2), bytes.length);
        x.discard(0);
        DUE.is(what + ": make()", x.make(), 0);
        DUE.is(what + ": extract(0)", x.extract(0), bytes.length);
        Help.isOutput(DUE, what, x, bytes);
    }

    /** Forty streams, each cut where these numbers cut it. */
    private static boolean isCutBy(int[] given, int least, int mean, int most) {
        Depot x = new Depot(given[0], given[1], given[2]);
        Help.fiveFiles(x);
        int[] stream = new int[97];
        x.make();
        x.extract(0);
        for (int i = 0; i < 97; i++) {
            stream[i] = x.output(i);
        }
        for (int v = 0; v < 40; v++) {
            int place = 19 * (v % 5) + 3 + v * 7 % 16;
            stream[place] = 11 * v & 255;
            x.edit(1 + v % 5, v * 7 % 16, 11 * v);
            x.discard(0);
            x.make();
            List<Integer> ends = Cuts.ends(stream, least, mean, most);
            // The last three tell enough, and leave calls for other streams.
            for (int k = ends.size() - 1; k >= 0 && k >= ends.size() - 3; k--) {
                if (x.piece(0, k) >> 32 != ends.get(k)) {
                    return false;
                }
            }
            x.collect();
        }
        return true;
    }

    /** "LEAST, MEAN, MOST become these if 8 <= least <= mean <= most <= 32" */
    private static void numbersThatJustFit() {
        int[][] fit = {{8, 8, 8}, {8, 8, 9}, {8, 9, 9}, {8, 8, 32}, {8, 32, 32}, {32, 32, 32}, {31, 32, 32},
            {31, 31, 32}, {9, 13, 25}, {8, 12, 24}};
        for (int[] n : fit) {
            DUE.yes("cut by " + n[0] + ", " + n[1] + ", " + n[2], isCutBy(n, n[0], n[1], n[2]));
        }
    }

    /** "and otherwise 8, 12, 24" */
    private static void numbersThatJustDoNotFit() {
        int[][] wrong = {{7, 8, 9}, {7, 32, 32}, {9, 8, 32}, {9, 8, 9}, {8, 9, 8}, {8, 33, 33}, {33, 33, 33},
            {8, 8, 33}, {32, 32, 33}, {32, 31, 32}, {31, 32, 31}, {0, 0, 0}, {1, 1, 1}, {-8, 8, 8}, {8, -8, 8},
            {8, 8, -8}, {MIN, MIN, MIN}, {MAX, MAX, MAX}, {MIN, 8, 8}, {8, MAX, 8}, {8, 8, MAX}, {MIN, MAX, 32}};
        for (int[] n : wrong) {
            DUE.yes("usual cuts with " + n[0] + ", " + n[1] + ", " + n[2], isCutBy(n, 8, 12, 24));
        }
    }

    /** "store, cache and seeds empty": a new object's seeds have neither bytes nor pieces. */
    private static void seedsOfANewObject() {
        Depot x = States.empty();
        x.make();
        DUE.is("extract(0)", x.extract(0), 2);
        Help.isCounts(DUE, "no seed has it", x, 1, 0, 0, 0);
        DUE.no("seed 0 has no byte", x.alter(0, 0, 0));
        DUE.no("seed 1 has no byte", x.alter(1, 0, 0));
    }

    /** "each has a NAME 1 .. 31" */
    private static void namesOneAndThirtyOne() {
        Depot x = eights();
        DUE.yes("name 31", x.create(31, 1));
        DUE.yes("name 1", x.create(1, 2));
        DUE.yes("name 31 below 1", x.create(Help.path(1, 31), 2));
        DUE.yes("name 1 below 1", x.create(Help.path(1, 1), 1));
        isStream("names 1 and 31", x, 2, 1, 1, 1, 0, 2, 31, 9, 0, 9, 2, 1, 31, 0, 9, 2);
    }

    /** "that no other entry of the same directory has" */
    private static void nameOnlyOnceInADirectory() {
        Depot x = eights();
        x.create(3, 2);
        x.create(4, 2);
        DUE.no("3 again", x.create(3, 1));
        DUE.yes("3 in 3", x.create(Help.path(3, 3), 1));
        DUE.yes("3 in 4", x.create(Help.path(4, 3), 2));
        DUE.no("3 in 3 again", x.create(Help.path(3, 3), 2));
        DUE.no("3 in 4 again", x.create(Help.path(4, 3), 2));
        isStream("each name once", x, 2, 3, 1, 3, 0, 9, 1, 2, 4, 2, 3, 9, 0, 9, 1, 9, 2);
    }

    /** "at most 10 entries in the whole tree (the root is none)" */
    private static void tenEntriesWithoutTheRoot() {
        Depot x = eights();
        for (int name = 1; name <= 10; name++) {
            DUE.yes("create(" + name + ")", x.create(name, 1));
        }
        DUE.is("ten entries", x.size(0), 10);
        DUE.no("an eleventh", x.create(11, 1));
        DUE.no("an eleventh directory", x.create(31, 2));
        DUE.is("ten entries still", x.size(0), 10);
        DUE.is("stream", x.size(2), 32);
    }

    private static void tenEntriesInAllDirectories() {
        Depot x = eights();
        x.create(1, 2);
        x.create(2, 2);
        for (int name = 1; name <= 4; name++) {
            DUE.yes("in 1", x.create(Help.path(1, name), 1));
            DUE.yes("in 2", x.create(Help.path(2, name), 2));
        }
        DUE.no("an eleventh in 1", x.create(Help.path(1, 5), 1));
        DUE.no("an eleventh in the root", x.create(3, 1));
        DUE.no("an eleventh three deep", x.create(Help.path(2, 1, 1), 1));
        DUE.is("entries", x.size(0), 10);
    }

    /** "at most six names", "(So no entry lies more than six names deep.)" */
    private static void sixNamesDeep() {
        Depot x = eights();
        for (int deep = 1; deep <= 5; deep++) {
            DUE.yes("directory " + deep + " deep", x.create(States.DEEPEST & ((1 << 5 * deep) - 1), 2));
        }
        DUE.yes("a directory six deep", x.create(States.DEEPEST, 2));
        DUE.is("remove it", x.remove(States.DEEPEST), 1);
        DUE.yes("a file six deep", x.create(States.DEEPEST, 1));
        DUE.is("its bytes", x.append(States.DEEPEST, 5, 2), 2);
        DUE.yes("its first byte", x.edit(States.DEEPEST, 0, 6));
        for (int high = 1; high <= 3; high++) {
            int path = States.DEEPEST | high << 30;
            DUE.no("create with high bits " + high, x.create(path, 1));
            DUE.is("append with high bits " + high, x.append(path, 1, 1), -1);
            DUE.no("edit with high bits " + high, x.edit(path, 0, 1));
            DUE.is("remove with high bits " + high, x.remove(path), -1);
        }
        isStream("six deep", x, 2, 31, 2, 31, 2, 31, 2, 31, 2, 31, 1, 31, 2, 6, 42, 9, 1, 9, 1, 9, 1, 9, 1, 9, 1, 9, 1);
    }

    /** "its lowest five bits are the first name, the five bits above them the second, and so on" */
    private static void firstNameLowest() {
        Depot x = eights();
        int path = 0;
        int[] names = {1, 2, 4, 8, 16, 1};
        for (int k = 0; k < 6; k++) {
            path |= names[k] << (5 * k);
            DUE.yes("create(" + path + ")", x.create(path, 2));
        }
        isStream("names in order", x, 2, 1, 2, 2, 2, 4, 2, 8, 2, 16, 2, 1, 9, 0, 9, 1, 9, 1, 9, 1, 9, 1, 9, 1, 9, 1);
    }

    /** "0 is the path of the root" */
    private static void pathOfTheRoot() {
        Depot x = eights();
        x.create(1, 1);
        DUE.no("create(0, 1)", x.create(0, 1));
        DUE.no("create(0, 2)", x.create(0, 2));
        DUE.is("append(0, 1, 1)", x.append(0, 1, 1), -1);
        DUE.no("edit(0, 0, 1)", x.edit(0, 0, 1));
        DUE.is("remove(0)", x.remove(0), -1);
        isStream("the root stays", x, 1, 1, 0, 9, 1);
    }

    /** "The stream of the tree is the BODY of the root": of no entries, 9 and 0. */
    private static void streamOfAnEmptyRoot() {
        isStream("empty root", eights(), 9, 0);
    }

    /** "its entries in ascending order of names" */
    private static void streamInOrderOfNames() {
        Depot x = eights();
        int[] names = {17, 31, 1, 16, 15, 2, 30};
        for (int name : names) {
            x.create(name, 1 + name % 2);
        }
        isStream("in order", x, 2, 1, 9, 0, 1, 2, 0, 2, 15, 9, 0, 1, 16, 0, 2, 17, 9, 0, 1, 30, 0, 2, 31, 9, 0, 9, 7);
        x.remove(16);
        x.create(16, 2);
        x.remove(1);
        isStream("in order behind remove", x, 1, 2, 0, 2, 15, 9, 0, 2, 16, 9, 0, 2, 17, 9, 0, 1, 30, 0, 2, 31, 9, 0, 9, 6);
    }

    /** "an empty file (kind 1) or an empty directory (kind 2)" */
    private static void emptyFileAndEmptyDirectory() {
        Depot x = eights();
        DUE.yes("create(5, 1)", x.create(5, 1));
        DUE.is("no bytes", x.size(1), 0);
        DUE.no("no first byte", x.edit(5, 0, 1));
        DUE.yes("create(6, 2)", x.create(6, 2));
        DUE.is("remove(6) takes it alone", x.remove(6), 1);
        x.create(6, 2);
        isStream("empty ones", x, 1, 5, 0, 2, 6, 9, 0, 9, 2);
    }

    /** "the path without its last name is not that of a directory that is there" */
    private static void createAndParentInTurn() {
        Depot x = eights();
        int path = Help.path(7, 8);
        DUE.no("before its directory", x.create(path, 1));
        x.create(7, 1);
        DUE.no("below a file", x.create(path, 1));
        x.remove(7);
        x.create(7, 2);
        DUE.yes("below a directory", x.create(path, 1));
        x.remove(7);
        DUE.no("its directory is gone", x.create(path, 1));
        DUE.is("no entries", x.size(0), 0);
    }

    /** "n is not 1 .. 16, the file would have more than 16 bytes" */
    private static void fileOfSixteen() {
        Depot x = eights();
        x.create(1, 1);
        x.create(2, 1);
        DUE.is("16 at once", x.append(1, 0, 16), 16);
        DUE.is("17", x.append(1, 0, 1), -1);
        for (int n = 1; n <= 16; n++) {
            DUE.is("one more", x.append(2, n, 1), n);
        }
        DUE.is("17 one by one", x.append(2, 0, 1), -1);
        DUE.is("16 and 16", x.append(2, 0, 16), -1);
        DUE.is("32 bytes", x.size(1), 32);
        x.create(3, 1);
        DUE.is("0 of 17", x.append(3, 0, 17), -1);
        DUE.is("0 of 0", x.append(3, 0, 0), -1);
        DUE.is("32 bytes still", x.size(1), 32);
    }

    /** "or all files together more than 80" */
    private static void eightyBytesInAll() {
        Depot x = eights();
        for (int name = 1; name <= 4; name++) {
            x.create(name, 1);
            x.append(name, name, 16);
        }
        x.create(5, 2);
        int deep = Help.path(5, 5);
        x.create(deep, 1);
        x.create(6, 1);
        DUE.is("79", x.append(deep, 1, 15), 15);
        DUE.is("81", x.append(6, 1, 2), -1);
        DUE.is("80", x.append(6, 1, 1), 1);
        DUE.is("81 by the other", x.append(deep, 1, 1), -1);
        DUE.is("80 bytes", x.size(1), 80);
        DUE.is("remove 15 bytes", x.remove(5), 2);
        DUE.is("15 more", x.append(6, 1, 15), 16);
        DUE.is("80 bytes again", x.size(1), 80);
    }

    /** "the lowest eight bits of v, v + 37, v + 74, and so on (v may be any number" */
    private static void bytesOfAppendWrap() {
        int[] values = {0, 255, 256, -1, -256, 219, 218, MAX, MAX - 36, MIN, MIN + 1, 0x12345678};
        for (int v : values) {
            Depot x = eights();
            x.create(1, 1);
            DUE.is("append(1, " + v + ", 16)", x.append(1, v, 16), 16);
            int[] want = new int[21];
            want[0] = 1;
            want[1] = 1;
            want[2] = 16;
            for (int i = 0; i < 16; i++) {
                want[3 + i] = (int) Math.floorMod(v + 37L * i, 256L);
            }
            want[19] = 9;
            want[20] = 1;
            isStream("appended " + v, x, want);
        }
    }

    /** "becomes the lowest eight bits of v" */
    private static void lowestEightBitsOfEdit() {
        Depot x = eights();
        x.create(1, 1);
        x.append(1, 5, 2);
        int[] values = {0, 255, 256, 257, -1, -255, -256, MAX, MIN, MIN + 7};
        for (int v : values) {
            DUE.yes("edit(1, 1, " + v + ")", x.edit(1, 1, v));
            isStream("edited " + v, x, 1, 1, 2, 5, Math.floorMod(v, 256), 9, 1);
        }
    }

    /** "or the file has no such byte" */
    private static void firstAndLastByteOfEdit() {
        Depot x = eights();
        x.create(1, 1);
        DUE.no("of none", x.edit(1, 0, 1));
        for (int n = 1; n <= 16; n++) {
            x.append(1, 100, 1);
            DUE.yes("the first of " + n, x.edit(1, 0, n));
            DUE.yes("the last of " + n, x.edit(1, n - 1, n));
            DUE.no("behind the last of " + n, x.edit(1, n, 0));
            DUE.no("before the first of " + n, x.edit(1, -1, 0));
        }
        isStream("edited", x, 1, 1, 16, 16, 2, 3, 4, 5, 6, 7, 8, 9, 10, 11, 12, 13, 14, 15, 16, 9, 1);
    }

    /** "with all that lies below it. Answers how many entries went" */
    private static void removeAllBelow() {
        Depot x = States.full();
        DUE.is("remove the file six deep", x.remove(States.DEEPEST), 1);
        DUE.is("64 bytes left", x.size(1), 64);
        DUE.is("remove it again", x.remove(States.DEEPEST), -1);
        DUE.is("remove all five directories", x.remove(31), 5);
        DUE.is("four entries left", x.size(0), 4);
        x = eights();
        x.create(9, 2);
        for (int name = 1; name <= 9; name++) {
            x.create(Help.path(9, name), name == 9 ? 2 : 1);
        }
        DUE.is("remove all ten", x.remove(9), 10);
        isStream("nothing is left", x, 9, 0);
    }

    private static void removeInTheMiddle() {
        Depot x = States.full();
        DUE.is("remove from the third directory on", x.remove(Help.path(31, 31, 31)), 4);
        DUE.is("the one above stays", x.remove(Help.path(31, 31)), 1);
        DUE.is("and the one above that", x.size(0), 5);
    }

    private static void removeMakesRoom() {
        Depot x = States.full();
        DUE.no("an eleventh", x.create(5, 1));
        DUE.is("remove a file", x.remove(2), 1);
        DUE.yes("a tenth", x.create(5, 1));
        DUE.no("an eleventh again", x.create(2, 1));
        DUE.is("16 bytes come in", x.append(5, 0, 16), 16);
        DUE.is("80 bytes", x.size(1), 80);
        DUE.is("117 bytes", x.size(2), 117);
    }
}
