/** What several tests need: paths, files of given bytes, and bytes whose ids are the same. */
final class Help {
    /** Two times eight bytes with one id. */
    static final int[] TWIN = {26, 2, 3, 4, 177, 0, 28, 150};
    static final int[] OTHER_TWIN = {189, 2, 3, 4, 154, 1, 16, 27};
    /** Eight bytes with the id that these five have together with the 9 and 2 that end a stream of two entries. */
    static final int[] LONGER = {110, 2, 3, 4, 196, 0, 59, 162};
    static final int[] SHORTER = {236, 39, 1, 7, 8};

    private Help() {
    }

    static int path(int... names) {
        int path = 0;
        for (int k = 0; k < names.length; k++) {
            path |= names[k] << (5 * k);
        }
        return path;
    }

    static int[] row(int n, int v) {
        int[] bytes = new int[n];
        for (int i = 0; i < n; i++) {
            bytes[i] = (v + i) & 255;
        }
        return bytes;
    }

    /** The given bytes with others laid over them from a place on. */
    static int[] laid(int[] bytes, int at, int[] over) {
        int[] all = bytes.clone();
        System.arraycopy(over, 0, all, at, over.length);
        return all;
    }

    static void file(Depot x, int path, int... bytes) {
        x.remove(path);
        x.create(path, 1);
        if (bytes.length > 0) {
            x.append(path, 0, bytes.length);
        }
        for (int i = 0; i < bytes.length; i++) {
            x.edit(path, i, bytes[i]);
        }
    }

    /** With pieces of eight: file 1's bytes 5 to 12 are piece 1, file 2's bytes 2 to 9 piece 3, of five. */
    static void twins(Depot x) {
        file(x, 1, laid(row(16, 40), 5, TWIN));
        file(x, 2, laid(row(16, 80), 2, OTHER_TWIN));
    }

    /** With pieces of eight: piece 1 has eight bytes, and piece 4, the last, seven of the same id. */
    static void unequals(Depot x) {
        file(x, 1, laid(row(16, 40), 5, LONGER));
        file(x, 2, laid(row(15, 80), 10, SHORTER));
    }

    /** Files 1 to 5 of 16 bytes each: a stream of 97 bytes, 13 pieces of eight, the last of them of one byte. */
    static void fiveFiles(Depot x) {
        for (int name = 1; name <= 5; name++) {
            x.create(name, 1);
            x.append(name, 50 * name, 16);
        }
    }

    /** With five files and pieces of eight: the first byte of a file in piece k, of 0 to 11, becomes v. */
    static void touch(Depot x, int k, int v) {
        int place = 8 * k;
        while (place % 19 < 3) {
            place++;
        }
        x.edit(1 + place / 19, place % 19 - 3, v);
    }

    /** Touches pieces 0 to n - 1. */
    static void touchFirst(Depot x, int n, int v) {
        for (int k = 0; k < n; k++) {
            touch(x, k, v);
        }
    }

    /** The output becomes these bytes. */
    static void outputs(Depot x, int... bytes) {
        x.spoil(0, -1);
        for (int i = 0; i < bytes.length; i++) {
            x.spoil(i, bytes[i]);
        }
    }

    static void isOutput(Due due, String what, Depot x, int... bytes) {
        due.is(what + ": output(-1)", x.output(-1), bytes.length);
        for (int i = 0; i < bytes.length; i++) {
            due.is(what + ": output(" + i + ")", x.output(i), bytes[i]);
        }
    }

    static void isCounts(Due due, String what, Depot x, int asked, int cached, int seeded, int again) {
        due.is(what + ": asked", x.counts(0), asked);
        due.is(what + ": cached", x.counts(1), cached);
        due.is(what + ": seeded", x.counts(2), seeded);
        due.is(what + ": again", x.counts(3), again);
    }

    static int id(int... bytes) {
        int h = 17;
        for (int x : bytes) {
            h = (h ^ x) * 16777619;
        }
        return h ^ (h >>> 16);
    }
}
