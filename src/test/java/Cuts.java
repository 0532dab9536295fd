import java.util.ArrayList;
import java.util.List;

/** Where pieces end, told in other words than the program's, and files made so that they end where a test wants. */
final class Cuts {
    private Cuts() {
    }

    private static long turned(int x, int k) {
        return Integer.toUnsignedLong(Integer.rotateLeft((x + 1) * -1640531535, k));
    }

    /** The four turned numbers together, as a number of 32 bits without a sign; end is behind the last of four bytes. */
    private static long mixed(int[] bytes, int end) {
        return turned(bytes[end - 4], 3) ^ turned(bytes[end - 3], 2) ^ turned(bytes[end - 2], 1) ^ turned(bytes[end - 1], 0);
    }

    static boolean isMarked(int[] bytes, int end, int mean) {
        return end >= 4 && mixed(bytes, end) / 2 % mean == mean - 1;
    }

    static List<Integer> ends(int[] bytes, int least, int mean, int most) {
        List<Integer> ends = new ArrayList<>();
        int n = 0;
        for (int end = 1; end <= bytes.length; end++) {
            n++;
            if (end == bytes.length || n == most || (n >= least && isMarked(bytes, end, mean))) {
                ends.add(end);
                n = 0;
            }
        }
        return ends;
    }

    /**
     * The stream of a tree with nothing but file 1, of 16 bytes, 21 in all, that is marked behind the wanted places
     * (4 .. 19) and behind no other; where it is marked, the highest of the 32 bits is as told.
     */
    static int[] marked(int mean, boolean high, int... wanted) {
        for (int from = 0; from < 256; from++) {
            int[] bytes = new int[21];
            bytes[0] = 1;
            bytes[1] = 1;
            bytes[2] = 16;
            bytes[19] = 9;
            bytes[20] = 1;
            boolean made = true;
            for (int end = 4; end <= 19 && made; end++) {
                made = choose(bytes, end, mean, high, from, isIn(end, wanted));
            }
            if (made && !isMarked(bytes, 20, mean)) {
                return bytes;
            }
        }
        throw new IllegalStateException("no such bytes were found");
    }

    private static boolean isIn(int end, int[] wanted) {
        for (int w : wanted) {
            if (w == end) {
                return true;
            }
        }
        return false;
    }

    private static boolean choose(int[] bytes, int end, int mean, boolean high, int from, boolean wanted) {
        for (int i = 0; i < 256; i++) {
            bytes[end - 1] = (from + i) & 255;
            boolean marked = isMarked(bytes, end, mean);
            if (marked == wanted && (!marked || mixed(bytes, end) >= 1L << 31 == high)) {
                return true;
            }
        }
        return false;
    }

    /** Makes file 1 as in a stream of 21 bytes. */
    static void file(Depot x, int[] stream) {
        int[] bytes = new int[16];
        System.arraycopy(stream, 3, bytes, 0, 16);
        Help.file(x, 1, bytes);
    }
}
