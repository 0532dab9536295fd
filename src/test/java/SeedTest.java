/** Promises 12 to 14: seed, alter, scan. */
public final class SeedTest {
    private static final Due DUE = new Due();

    private SeedTest() {
    }

    public static void main(String[] args) {
        seed();
        seedRefused();
        alter();
        alterRefused();
        scan();
        scanCutsOtherwise();
        DUE.end();
    }

    private static Depot eights() {
        Depot x = new Depot(8, 8, 8);
        Help.file(x, 1, Help.row(16, 0));
        return x;
    }

    private static void seed() {
        Depot x = eights();
        x.make();
        DUE.yes("seed(1)", x.seed(1));
        DUE.is("nothing goes into the store", x.size(4), 3);
        x.remove(1);
        DUE.is("extract(0)", x.extract(0), 21);
        Help.isCounts(DUE, "the seed keeps its bytes", x, 0, 0, 3, 0);
        DUE.is("nothing goes into the cache", x.size(6), 0);
        DUE.yes("seed(1) again", x.seed(1));
        DUE.is("extract(0) again", x.extract(0), 21);
        Help.isCounts(DUE, "the new bytes take the place of the old", x, 3, 0, 0, 0);
        DUE.is("pieces of the small tree", x.scan(1), 1);
        DUE.is("the other seed", x.scan(0), 0);
    }

    private static void seedRefused() {
        Depot x = eights();
        int[] none = {-1, 2, Integer.MIN_VALUE, Integer.MAX_VALUE};
        for (int s : none) {
            DUE.no("seed(" + s + ")", x.seed(s));
        }
        DUE.is("seed 0 is empty", x.scan(0), 0);
        DUE.is("seed 1 is empty", x.scan(1), 0);
    }

    private static void alter() {
        Depot x = eights();
        x.make();
        x.seed(0);
        DUE.yes("the first byte", x.alter(0, 0, 255));
        DUE.yes("the last byte", x.alter(0, 20, 0));
        x.extract(0);
        Help.isCounts(DUE, "two pieces are not good now", x, 2, 0, 1, 0);
        x.damage(1, 0, 0, -1, 0);
        x.damage(1, 0, 2, -1, 0);
        DUE.yes("back", x.alter(0, 0, 1));
        x.extract(0);
        Help.isCounts(DUE, "the list was left, so it is good again", x, 1, 0, 2, 0);
    }

    private static void alterRefused() {
        Depot x = eights();
        DUE.no("no bytes yet", x.alter(0, 0, 1));
        x.seed(0);
        DUE.no("the other seed has none", x.alter(1, 0, 1));
        DUE.no("s -1", x.alter(-1, 0, 1));
        DUE.no("s 2", x.alter(2, 0, 1));
        DUE.no("at -1", x.alter(0, -1, 1));
        DUE.no("at 21", x.alter(0, 21, 1));
        DUE.no("at MAX", x.alter(0, Integer.MAX_VALUE, 1));
        DUE.no("v -1", x.alter(0, 0, -1));
        DUE.no("v 256", x.alter(0, 0, 256));
        x.make();
        x.extract(0);
        Help.isCounts(DUE, "nothing changed", x, 0, 0, 3, 0);
    }

    private static void scan() {
        Depot x = eights();
        DUE.is("s -1", x.scan(-1), -1);
        DUE.is("s 2", x.scan(2), -1);
        DUE.is("empty", x.scan(0), 0);
        x.seed(0);
        DUE.is("as it was", x.scan(0), 3);
        x.alter(0, 3, 99);
        x.edit(1, 0, 99);
        x.make();
        x.damage(0, 0, 0, -1, 0);
        DUE.is("the list is old", x.extract(0), -2);
        DUE.is("cut anew", x.scan(0), 3);
        DUE.is("the list is new", x.extract(0), 21);
        Help.isCounts(DUE, "all from the seed", x, 0, 0, 3, 0);
    }

    /** An altered seed is cut as a tree with the same change is. */
    private static void scanCutsOtherwise() {
        int changed = 0;
        for (int at = 0; at < 16; at++) {
            Depot x = new Depot(8, 8, 32);
            Help.file(x, 1, Help.row(16, 0));
            x.seed(0);
            int before = x.scan(0);
            for (int v = 0; v < 60; v++) {
                x.alter(0, 3 + at, v);
                x.edit(1, at, v);
                x.seed(1);
                int pieces = x.scan(1);
                DUE.is("byte " + at + " is " + v + ": scan(0)", x.scan(0), pieces);
                changed += pieces == before ? 0 : 1;
            }
        }
        DUE.yes("some changes cut otherwise", changed > 0);
    }
}
