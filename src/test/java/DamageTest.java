/** Promise 11: damage. */
public final class DamageTest {
    private static final Due DUE = new Due();

    private DamageTest() {
    }

    public static void main(String[] args) {
        ofTheStore();
        ofTheCache();
        refused();
        bytesOfAnotherLength();
        DUE.end();
    }

    private static Depot withImage() {
        Depot x = new Depot(8, 8, 8);
        Help.file(x, 1, Help.row(16, 0));
        x.make();
        return x;
    }

    private static void ofTheStore() {
        Depot x = withImage();
        DUE.yes("a byte", x.damage(0, 0, 2, 4, 255));
        DUE.is("that piece fails", x.extract(0), -4);
        DUE.yes("the byte as it was", x.damage(0, 0, 2, 4, 1));
        x = withImage();
        DUE.yes("the last byte of the last piece", x.damage(0, 0, 2, 4, 2));
        DUE.is("fails too", x.extract(0), -4);
        DUE.yes("back", x.damage(0, 0, 2, 4, 1));
        DUE.is("good again", x.extract(0), 21);
        x = withImage();
        DUE.yes("take out, whatever v is", x.damage(0, 0, 1, -1, 999));
        DUE.is("ids", x.size(4), 2);
        DUE.is("bytes", x.size(5), 13);
        DUE.is("asked in vain", x.extract(0), -3);
        DUE.no("take out again", x.damage(0, 0, 1, -1, 0));
        DUE.no("a byte of what is out", x.damage(0, 0, 1, 0, 0));
    }

    private static void ofTheCache() {
        Depot x = withImage();
        DUE.no("nothing in the cache", x.damage(1, 0, 0, 0, 1));
        DUE.no("nothing to take out of the cache", x.damage(1, 0, 0, -1, 1));
        x.extract(0);
        DUE.yes("a byte", x.damage(1, 0, 0, 7, 0));
        x.extract(0);
        Help.isCounts(DUE, "one is asked for again", x, 1, 2, 0, 0);
        DUE.yes("take out", x.damage(1, 0, 0, -1, -7));
        DUE.is("ids in the cache", x.size(6), 2);
        DUE.is("bytes in the cache", x.size(7), 13);
        DUE.is("ids in the store", x.size(4), 3);
        x.extract(0);
        Help.isCounts(DUE, "it is asked for again", x, 1, 2, 0, 0);
        DUE.yes("the store's bytes", x.damage(0, 0, 0, 7, 0));
        DUE.is("are not the cache's", x.extract(0), 21);
    }

    private static void refused() {
        Depot x = withImage();
        x.extract(0);
        int[] where = {-1, 2, Integer.MIN_VALUE, Integer.MAX_VALUE};
        for (int w : where) {
            DUE.no("where " + w, x.damage(w, 0, 0, -1, 0));
        }
        int[] images = {-1, 1, 3, 4, Integer.MAX_VALUE};
        for (int i : images) {
            DUE.no("image " + i, x.damage(0, i, 0, -1, 0));
        }
        int[] pieces = {-1, 3, 15, 16, Integer.MIN_VALUE};
        for (int k : pieces) {
            DUE.no("piece " + k, x.damage(0, 0, k, -1, 0));
        }
        for (int w = 0; w < 2; w++) {
            DUE.no("at -2", x.damage(w, 0, 0, -2, 0));
            DUE.no("at 8", x.damage(w, 0, 0, 8, 0));
            DUE.no("at 5 of 5", x.damage(w, 0, 2, 5, 0));
            DUE.no("at MIN", x.damage(w, 0, 0, Integer.MIN_VALUE, 0));
            DUE.no("v -1", x.damage(w, 0, 0, 0, -1));
            DUE.no("v 256", x.damage(w, 0, 0, 0, 256));
        }
        DUE.is("ids in the store", x.size(4), 3);
        DUE.is("bytes in the cache", x.size(7), 21);
        x.extract(0);
        Help.isCounts(DUE, "nothing changed in the cache", x, 0, 3, 0, 0);
        for (int k = 0; k < 3; k++) {
            x.damage(1, 0, k, -1, 0);
        }
        DUE.is("nothing changed in the store", x.extract(0), 21);
    }

    private static void bytesOfAnotherLength() {
        Depot x = new Depot(8, 8, 8);
        Help.unequals(x);
        x.make();
        DUE.yes("piece 4 has seven bytes, eight are kept", x.damage(0, 0, 4, 7, 0));
        DUE.no("but not nine", x.damage(0, 0, 4, 8, 0));
        DUE.is("piece 1 is under the same id", x.extract(0), -3);
    }
}
