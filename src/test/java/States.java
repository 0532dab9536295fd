/** Objects with a past; each call makes a new one, with the same past every time. */
final class States {
    /** A file of 13 bytes in directory 1. */
    static final int DEEP_FILE = Help.path(1, 2);
    /** In a full object: the file that lies six names deep. */
    static final int DEEPEST = Help.path(31, 31, 31, 31, 31, 31);

    private States() {
    }

    static Depot empty() {
        return new Depot(8, 12, 24);
    }

    /**
     * Entries 1 (a directory with file 2 and the empty directory 3), 4 and 5 (files of 13 bytes), 6 (an empty file);
     * images 0 and 1 of eight pieces, piece 6 as piece 4, unlike one another in piece 5 alone. The store has piece 7
     * damaged, and image 1's piece 5 not at all; the cache has image 0's piece 1 damaged, and its pieces 0 and 3 not
     * at all. Both seeds have been altered to image 1's piece 5, but not cut anew, and the output is spoilt.
     */
    static Depot rich() {
        Depot x = new Depot(8, 8, 8);
        x.create(1, 2);
        x.create(DEEP_FILE, 1);
        x.append(DEEP_FILE, 10, 13);
        x.create(Help.path(1, 3), 2);
        for (int name = 4; name <= 5; name++) {
            x.create(name, 1);
            x.append(name, 100, 13);
        }
        x.create(6, 1);
        x.make();
        x.extract(0);
        x.seed(0);
        x.seed(1);
        x.edit(5, 0, 7);
        x.make();
        x.alter(0, 43, 7);
        x.alter(1, 43, 7);
        x.alter(1, 0, 78);
        x.damage(0, 0, 7, 3, 200);
        x.damage(0, 1, 5, -1, 0);
        x.damage(1, 0, 1, 2, 201);
        x.damage(1, 0, 3, -1, 0);
        x.damage(1, 0, 5, 0, 99);
        x.extract(0);
        x.spoil(0, 3);
        return x;
    }

    /** The same, but its latest extraction has failed, at piece 5 of image 0. */
    static Depot failed() {
        Depot x = rich();
        x.damage(0, 0, 5, -1, 0);
        x.damage(1, 0, 5, -1, 0);
        x.extract(0);
        return x;
    }

    /** Ten entries down to six names deep, 80 bytes, 117 in the stream, four images of 15 pieces, 40 and 6 ids, 120 bytes. */
    static Depot full() {
        Depot x = new Depot(8, 8, 8);
        for (int name = 1; name <= 4; name++) {
            x.create(name, 1);
            x.append(name, 50 * name, 16);
        }
        for (int deep = 1; deep <= 5; deep++) {
            x.create(DEEPEST & ((1 << (5 * deep)) - 1), 2);
        }
        x.create(DEEPEST, 1);
        x.append(DEEPEST, 250, 16);
        x.make();
        Help.touchFirst(x, 10, 1);
        x.make();
        Help.touchFirst(x, 10, 2);
        x.make();
        x.seed(0);
        Help.touchFirst(x, 5, 3);
        x.make();
        x.seed(1);
        x.extract(0);
        for (int i = 117; i < 120; i++) {
            x.spoil(i, i);
        }
        return x;
    }

    /** Six files with 16, 16, 16, 16, 15 and 1 bytes. */
    static Depot eighty() {
        Depot x = new Depot(8, 8, 8);
        for (int name = 1; name <= 6; name++) {
            x.create(name, 1);
            x.append(name, 40 * name, name < 5 ? 16 : name == 5 ? 15 : 1);
        }
        return x;
    }

    /** Three images and 37 ids; an image of the tree would bring as many more as said. */
    static Depot withIdsToCome(int ids) {
        Depot x = new Depot(8, 8, 8);
        Help.fiveFiles(x);
        for (int image = 0; image < 3; image++) {
            x.make();
            Help.touchFirst(x, image < 2 ? 12 : ids, image + 1);
        }
        x.extract(1);
        return x;
    }
}
