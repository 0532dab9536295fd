/** Promise 20: size. */
public final class SizeTest {
    private static final Due DUE = new Due();

    private SizeTest() {
    }

    public static void main(String[] args) {
        Depot x = new Depot(8, 8, 8);
        sizes("new", x, 0, 0, 2, 0, 0, 0, 0, 0);
        Help.file(x, 1, Help.row(16, 0));
        x.create(2, 2);
        Help.file(x, Help.path(2, 3), 5);
        sizes("a tree", x, 3, 17, 3 + 16 + 4 + 4 + 2, 0, 0, 0, 0, 0);
        x.make();
        sizes("an image", x, 3, 17, 29, 1, 4, 29, 0, 0);
        x.extract(0);
        sizes("extracted", x, 3, 17, 29, 1, 4, 29, 4, 29);
        x.damage(0, 0, 3, -1, 0);
        x.damage(1, 0, 0, -1, 0);
        sizes("damaged", x, 3, 17, 29, 1, 3, 24, 3, 21);
        x.remove(2);
        x.make();
        sizes("two images", x, 1, 16, 21, 2, 4, 29, 3, 21);
        x.discard(0);
        sizes("discarded", x, 1, 16, 21, 1, 4, 29, 3, 21);
        x.collect();
        sizes("collected", x, 1, 16, 21, 1, 3, 21, 3, 21);
        int[] none = {-1, 8, Integer.MIN_VALUE, Integer.MAX_VALUE};
        for (int what : none) {
            DUE.is("size(" + what + ")", x.size(what), -1);
        }
        DUE.end();
    }

    private static void sizes(String when, Depot x, int... want) {
        for (int what = 0; what < want.length; what++) {
            DUE.is(when + ": size(" + what + ")", x.size(what), want[what]);
        }
    }
}
