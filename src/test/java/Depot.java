/** A SliceDepot that is never asked more often than the document speaks of. */
final class Depot {
    private static final int MOST_CALLS = 512;

    private final SliceDepot x;
    private int calls;

    Depot(int least, int mean, int most) {
        x = new SliceDepot(least, mean, most);
    }

    int callsLeft() {
        return MOST_CALLS - calls;
    }

    private SliceDepot next() {
        calls++;
        if (calls > MOST_CALLS) {
            throw new IllegalStateException("a test asks one object more than " + MOST_CALLS + " times");
        }
        return x;
    }

    boolean create(int path, int kind) {
        return next().create(path, kind);
    }

    int append(int path, int v, int n) {
        return next().append(path, v, n);
    }

    boolean edit(int path, int at, int v) {
        return next().edit(path, at, v);
    }

    int remove(int path) {
        return next().remove(path);
    }

    int make() {
        return next().make();
    }

    boolean discard(int image) {
        return next().discard(image);
    }

    int collect() {
        return next().collect();
    }

    int root(int image) {
        return next().root(image);
    }

    long piece(int image, int k) {
        return next().piece(image, k);
    }

    boolean damage(int where, int image, int k, int at, int v) {
        return next().damage(where, image, k, at, v);
    }

    boolean seed(int s) {
        return next().seed(s);
    }

    boolean alter(int s, int at, int v) {
        return next().alter(s, at, v);
    }

    int scan(int s) {
        return next().scan(s);
    }

    int extract(int image) {
        return next().extract(image);
    }

    int counts(int what) {
        return next().counts(what);
    }

    int output(int i) {
        return next().output(i);
    }

    boolean spoil(int i, int v) {
        return next().spoil(i, v);
    }

    int unpack() {
        return next().unpack();
    }

    int size(int what) {
        return next().size(what);
    }
}
