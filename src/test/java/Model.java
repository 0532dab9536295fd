import java.util.ArrayList;
import java.util.Iterator;
import java.util.LinkedHashMap;
import java.util.List;
import java.util.Map;
import java.util.TreeMap;

/** The document's words once more, in plain collections: what a SliceDepot is compared with. */
final class Model {
    private static final class Node {
        final TreeMap<Integer, Node> entries;
        final List<Integer> bytes;

        Node(int kind) {
            entries = kind == 2 ? new TreeMap<>() : null;
            bytes = kind == 1 ? new ArrayList<>() : null;
        }

        int entriesBelow() {
            int n = 0;
            if (entries != null) {
                for (Node e : entries.values()) {
                    n += 1 + e.entriesBelow();
                }
            }
            return n;
        }

        int bytesBelow() {
            if (bytes != null) {
                return bytes.size();
            }
            int n = 0;
            for (Node e : entries.values()) {
                n += e.bytesBelow();
            }
            return n;
        }

        void body(List<Integer> to) {
            for (Map.Entry<Integer, Node> e : entries.entrySet()) {
                Node node = e.getValue();
                to.add(node.bytes != null ? 1 : 2);
                to.add(e.getKey());
                if (node.bytes != null) {
                    to.add(node.bytes.size());
                    to.addAll(node.bytes);
                } else {
                    node.body(to);
                }
            }
            to.add(9);
            to.add(entries.size());
        }
    }

    private record Piece(int start, int end, int id) {
        int n() {
            return end - start;
        }
    }

    private static final class Fault extends Exception {
        private static final long serialVersionUID = 1L;
    }

    private final int least;
    private final int mean;
    private final int most;
    private Node top = new Node(2);
    private final List<List<Piece>> images = new ArrayList<>();
    private final Map<Integer, List<Integer>> store = new LinkedHashMap<>();
    private final Map<Integer, List<Integer>> cache = new LinkedHashMap<>();
    private final List<List<Integer>> seedBytes = new ArrayList<>();
    private final List<List<Piece>> seedPieces = new ArrayList<>();
    private List<Integer> out = new ArrayList<>();
    private final int[] tally = new int[4];
    private int readTo;
    private int begun;
    private int fileBytes;

    Model(int least, int mean, int most) {
        boolean ok = 8 <= least && least <= mean && mean <= most && most <= 32;
        this.least = ok ? least : 8;
        this.mean = ok ? mean : 12;
        this.most = ok ? most : 24;
        for (int i = 0; i < 4; i++) {
            images.add(null);
        }
        for (int s = 0; s < 2; s++) {
            seedBytes.add(new ArrayList<>());
            seedPieces.add(new ArrayList<>());
        }
    }

    /** The names of a path, null when it is none. */
    private static List<Integer> names(int path) {
        if ((path & 0xC0000000) != 0) {
            return null;
        }
        List<Integer> names = new ArrayList<>();
        boolean ended = false;
        for (int k = 0; k < 6; k++) {
            int name = (path >> (5 * k)) & 31;
            if (name == 0) {
                ended = true;
            } else if (ended) {
                return null;
            } else {
                names.add(name);
            }
        }
        return names;
    }

    private Node node(List<Integer> names) {
        Node node = top;
        for (int name : names) {
            if (node == null || node.entries == null) {
                return null;
            }
            node = node.entries.get(name);
        }
        return node;
    }

    private Node file(int path) {
        List<Integer> names = names(path);
        Node node = names == null ? null : node(names);
        return node == null || node.bytes == null ? null : node;
    }

    boolean create(int path, int kind) {
        List<Integer> names = names(path);
        if (names == null || names.isEmpty() || kind < 1 || kind > 2 || top.entriesBelow() >= 10) {
            return false;
        }
        Node parent = node(names.subList(0, names.size() - 1));
        int name = names.get(names.size() - 1);
        if (parent == null || parent.entries == null || parent.entries.containsKey(name)) {
            return false;
        }
        parent.entries.put(name, new Node(kind));
        return true;
    }

    int append(int path, int v, int n) {
        Node file = file(path);
        if (file == null || n < 1 || n > 16 || file.bytes.size() + n > 16 || top.bytesBelow() + n > 80) {
            return -1;
        }
        int value = v;
        for (int i = 0; i < n; i++) {
            file.bytes.add(value & 0xFF);
            value += 37;
        }
        return file.bytes.size();
    }

    boolean edit(int path, int at, int v) {
        Node file = file(path);
        if (file == null || at < 0 || at >= file.bytes.size()) {
            return false;
        }
        file.bytes.set(at, v & 0xFF);
        return true;
    }

    int remove(int path) {
        List<Integer> names = names(path);
        if (names == null || names.isEmpty() || node(names) == null) {
            return -1;
        }
        Node parent = node(names.subList(0, names.size() - 1));
        return 1 + parent.entries.remove(names.get(names.size() - 1)).entriesBelow();
    }

    private List<Integer> stream() {
        List<Integer> bytes = new ArrayList<>();
        top.body(bytes);
        return bytes;
    }

    private static int id(List<Integer> bytes) {
        int h = 17;
        for (int x : bytes) {
            h = (h ^ x) * 16777619;
        }
        return h ^ (h >>> 16);
    }

    private static int turned(int byteValue, int k) {
        return Integer.rotateLeft((byteValue + 1) * -1640531535, k);
    }

    private List<Piece> cut(List<Integer> bytes) {
        List<Piece> pieces = new ArrayList<>();
        List<Integer> piece = new ArrayList<>();
        for (int i = 0; i < bytes.size(); i++) {
            piece.add(bytes.get(i));
            int n = piece.size();
            boolean end = i == bytes.size() - 1 || n == most;
            if (!end && n >= least) {
                int mark = (turned(piece.get(n - 4), 3) ^ turned(piece.get(n - 3), 2)
                        ^ turned(piece.get(n - 2), 1) ^ turned(piece.get(n - 1), 0)) >>> 1;
                end = mark % mean == mean - 1;
            }
            if (end) {
                pieces.add(new Piece(i + 1 - n, i + 1, id(piece)));
                piece.clear();
            }
        }
        return pieces;
    }

    private List<Piece> image(int number) {
        return number < 0 || number > 3 ? null : images.get(number);
    }

    int make() {
        int number = images.indexOf(null);
        if (number < 0) {
            return -1;
        }
        List<Integer> bytes = stream();
        List<Piece> pieces = cut(bytes);
        Map<Integer, List<Integer>> grown = new LinkedHashMap<>(store);
        for (Piece p : pieces) {
            grown.putIfAbsent(p.id, new ArrayList<>(bytes.subList(p.start, p.end)));
        }
        if (grown.size() > 40) {
            return -2;
        }
        store.putAll(grown);
        images.set(number, pieces);
        return number;
    }

    boolean discard(int number) {
        if (image(number) == null) {
            return false;
        }
        images.set(number, null);
        return true;
    }

    int collect() {
        int before = store.size();
        for (Iterator<Integer> ids = store.keySet().iterator(); ids.hasNext();) {
            int id = ids.next();
            boolean used = false;
            for (List<Piece> pieces : images) {
                used |= pieces != null && pieces.stream().anyMatch(p -> p.id == id);
            }
            if (!used) {
                ids.remove();
            }
        }
        return before - store.size();
    }

    int root(int number) {
        if (image(number) == null) {
            return 0;
        }
        List<Integer> ids = new ArrayList<>();
        for (Piece p : image(number)) {
            ids.add(p.id);
        }
        while (ids.size() > 1) {
            List<Integer> next = new ArrayList<>();
            for (int i = 0; i < ids.size(); i += 2) {
                if (i + 1 == ids.size()) {
                    next.add(ids.get(i));
                } else {
                    int q = ids.get(i + 1);
                    next.add((ids.get(i) * 31 + q) ^ (q >>> 7));
                }
            }
            ids = next;
        }
        return ids.get(0);
    }

    private Piece pieceOf(int number, int k) {
        List<Piece> pieces = image(number);
        return pieces == null || k < 0 || k >= pieces.size() ? null : pieces.get(k);
    }

    long piece(int number, int k) {
        Piece p = pieceOf(number, k);
        return p == null ? -1 : p.end * 4294967296L + Integer.toUnsignedLong(p.id);
    }

    boolean damage(int where, int number, int k, int at, int v) {
        Piece p = pieceOf(number, k);
        if (p == null || where < 0 || where > 1) {
            return false;
        }
        Map<Integer, List<Integer>> keep = where == 0 ? store : cache;
        List<Integer> kept = keep.get(p.id);
        if (kept == null || at < -1 || at >= kept.size() || (at != -1 && (v < 0 || v > 255))) {
            return false;
        }
        if (at == -1) {
            keep.remove(p.id);
        } else {
            kept.set(at, v);
        }
        return true;
    }

    boolean seed(int s) {
        if (s != 0 && s != 1) {
            return false;
        }
        seedBytes.set(s, stream());
        seedPieces.set(s, cut(seedBytes.get(s)));
        return true;
    }

    boolean alter(int s, int at, int v) {
        if ((s != 0 && s != 1) || at < 0 || at >= seedBytes.get(s).size() || v < 0 || v > 255) {
            return false;
        }
        seedBytes.get(s).set(at, v);
        return true;
    }

    int scan(int s) {
        if (s != 0 && s != 1) {
            return -1;
        }
        seedPieces.set(s, cut(seedBytes.get(s)));
        return seedPieces.get(s).size();
    }

    int extract(int number) {
        List<Piece> pieces = image(number);
        if (pieces == null) {
            return -1;
        }
        java.util.Arrays.fill(tally, 0);
        List<List<Integer>> parts = new ArrayList<>();
        out = new ArrayList<>();
        for (int k = 0; k < pieces.size(); k++) {
            List<Integer> part = part(pieces, k, parts);
            if (part == null) {
                return -2 - k;
            }
            parts.add(new ArrayList<>(part));
        }
        parts.forEach(out::addAll);
        return out.size();
    }

    private static boolean good(List<Integer> bytes, Piece p) {
        return bytes != null && bytes.size() == p.n() && id(bytes) == p.id;
    }

    private List<Integer> part(List<Piece> pieces, int k, List<List<Integer>> parts) {
        Piece p = pieces.get(k);
        for (int j = 0; j < k; j++) {
            if (pieces.get(j).id == p.id && pieces.get(j).n() == p.n()) {
                tally[3]++;
                return parts.get(j);
            }
        }
        if (good(cache.get(p.id), p)) {
            tally[1]++;
            return cache.get(p.id);
        }
        for (int s = 0; s < 2; s++) {
            for (Piece q : seedPieces.get(s)) {
                List<Integer> now = seedBytes.get(s).subList(q.start, q.end);
                if (q.id == p.id && good(now, p)) {
                    tally[2]++;
                    return now;
                }
            }
        }
        tally[0]++;
        List<Integer> kept = store.get(p.id);
        if (!good(kept, p)) {
            return null;
        }
        if (!cache.containsKey(p.id) && cache.size() == 6) {
            cache.remove(cache.keySet().iterator().next());
        }
        cache.put(p.id, new ArrayList<>(kept));
        return kept;
    }

    int counts(int what) {
        return what < 0 || what > 3 ? -1 : tally[what];
    }

    int output(int i) {
        return i == -1 ? out.size() : i < 0 || i >= out.size() ? -2 : out.get(i);
    }

    boolean spoil(int i, int v) {
        if (v == -1 && i >= 0 && i <= out.size()) {
            out = new ArrayList<>(out.subList(0, i));
            return true;
        }
        if (v < 0 || v > 255 || i < 0 || i > out.size() || i >= 120) {
            return false;
        }
        if (i == out.size()) {
            out.add(v);
        } else {
            out.set(i, v);
        }
        return true;
    }

    int unpack() {
        readTo = 0;
        begun = 0;
        fileBytes = 0;
        Node read = new Node(2);
        try {
            readBody(read, 0);
            if (readTo < out.size()) {
                throw new Fault();
            }
        } catch (Fault fault) {
            return -1 - readTo;
        }
        top = read;
        return begun;
    }

    private void readBody(Node directory, int depth) throws Fault {
        int last = 0;
        while (true) {
            int kind = next();
            boolean more = (kind == 1 || kind == 2) && begun < 10 && depth <= 5;
            if (kind != 9 && !more) {
                throw new Fault();
            }
            readTo++;
            if (kind == 9) {
                pass(directory.entries.size(), directory.entries.size());
                return;
            }
            begun++;
            last = pass(last + 1, 31);
            Node entry = new Node(kind);
            directory.entries.put(last, entry);
            if (kind == 2) {
                readBody(entry, depth + 1);
            } else {
                int n = next();
                if (fileBytes + n > 80) {
                    throw new Fault();
                }
                pass(0, 16);
                fileBytes += n;
                for (int i = 0; i < n; i++) {
                    entry.bytes.add(pass(0, 255));
                }
            }
        }
    }

    private int next() throws Fault {
        if (readTo >= out.size()) {
            throw new Fault();
        }
        return out.get(readTo);
    }

    private int pass(int low, int high) throws Fault {
        int b = next();
        if (b < low || b > high) {
            throw new Fault();
        }
        readTo++;
        return b;
    }

    int size(int what) {
        switch (what) {
            case 0: return top.entriesBelow();
            case 1: return top.bytesBelow();
            case 2: return stream().size();
            case 3: return (int) images.stream().filter(i -> i != null).count();
            case 4: return store.size();
            case 5: return store.values().stream().mapToInt(List::size).sum();
            case 6: return cache.size();
            case 7: return cache.values().stream().mapToInt(List::size).sum();
            default: return -1;
        }
    }
}
