/** Images of a small directory tree, kept as pieces of its byte stream and put together again. */
public final class SliceDepot {
    private static final int NONE = -1;
    private static final int FILE = 1;
    private static final int DIRECTORY = 2;
    private static final int END_MARK = 9;

    private static final int MOST_NAME = 31;
    private static final int MOST_NAMES = 6;
    private static final int NAME_BITS = 5;
    private static final int MOST_ENTRIES = 10;
    private static final int MOST_FILE_BYTES = 16;
    private static final int MOST_TREE_BYTES = 80;
    private static final int MOST_STREAM_BYTES = 117;
    private static final int MOST_OUTPUT_BYTES = 120;

    private static final int LOWEST_LEAST = 8;
    private static final int HIGHEST_MOST = 32;
    private static final int USUAL_LEAST = 8;
    private static final int USUAL_MEAN = 12;
    private static final int USUAL_MOST = 24;
    // A stream of 117 bytes, cut into pieces of 8 with one shorter at its end.
    private static final int MOST_PIECES = 15;

    private static final int MOST_IMAGES = 4;
    private static final int STORE_IDS = 40;
    private static final int CACHE_IDS = 6;
    private static final int SEEDS = 2;

    private static final int STEP_OF_APPEND = 37;
    private static final int ASKED = 0;
    private static final int CACHED = 1;
    private static final int SEEDED = 2;
    private static final int AGAIN = 3;
    private static final int KINDS_OF_COUNTS = 4;

    private final Cutter cutter;
    private final PieceList[] images;
    private final Keep store;
    private final Keep cache;
    private final Seed[] seeds;
    private final Bytes stream;
    private final Bytes written;
    private final int[] tally;
    private Tree tree;
    // unpack() reads into this one, so that a fault leaves the tree as it was.
    private Tree spareTree;

    public SliceDepot(int least, int mean, int most) {
        cutter = new Cutter(least, mean, most);
        images = new PieceList[MOST_IMAGES];
        for (int i = 0; i < MOST_IMAGES; i++) {
            images[i] = new PieceList();
        }
        store = new Keep(STORE_IDS);
        cache = new Keep(CACHE_IDS);
        seeds = new Seed[SEEDS];
        for (int s = 0; s < SEEDS; s++) {
            seeds[s] = new Seed();
        }
        stream = new Bytes(MOST_STREAM_BYTES);
        written = new Bytes(MOST_OUTPUT_BYTES);
        tally = new int[KINDS_OF_COUNTS];
        tree = new Tree();
        spareTree = new Tree();
    }

    public boolean create(int path, int kind) {
        if (!Tree.isPath(path) || path == 0 || (kind != FILE && kind != DIRECTORY)) {
            return false;
        }
        int parent = tree.find(Tree.pathOfParent(path));
        int name = Tree.lastNameOf(path);
        if (!tree.isDirectory(parent) || tree.childNamed(parent, name) != NONE) {
            return false;
        }
        return tree.addEntry(parent, name, kind) != NONE;
    }

    public int append(int path, int v, int n) {
        Bytes file = tree.fileAt(path);
        if (file == null || n < 1 || n > MOST_FILE_BYTES) {
            return -1;
        }
        if (file.count() + n > MOST_FILE_BYTES || tree.fileBytes() + n > MOST_TREE_BYTES) {
            return -1;
        }
        for (int i = 0; i < n; i++) {
            file.add(v + STEP_OF_APPEND * i);
        }
        return file.count();
    }

    public boolean edit(int path, int at, int v) {
        Bytes file = tree.fileAt(path);
        return file != null && file.change(at, v);
    }

    public int remove(int path) {
        int slot = tree.find(path);
        if (slot == NONE || slot == Tree.ROOT) {
            return -1;
        }
        return tree.takeAway(slot);
    }

    public int make() {
        int number = freeImage();
        if (number == NONE) {
            return -1;
        }
        PieceList pieces = images[number];
        tree.writeStream(stream);
        cutter.cut(stream, pieces);
        if (store.count() + idsNewToStore(pieces) > STORE_IDS) {
            pieces.clear();
            return -2;
        }
        storePieces(pieces);
        return number;
    }

    public boolean discard(int image) {
        PieceList pieces = imageNumbered(image);
        if (pieces == null) {
            return false;
        }
        pieces.clear();
        return true;
    }

    public int collect() {
        int gone = 0;
        // From the last on, because taking one out moves those behind it.
        for (int i = store.count() - 1; i >= 0; i--) {
            if (!isIdOfAnImage(store.idAt(i))) {
                store.takeOut(i);
                gone++;
            }
        }
        return gone;
    }

    public int root(int image) {
        PieceList pieces = imageNumbered(image);
        return pieces == null ? 0 : pieces.rootId();
    }

    public long piece(int image, int k) {
        PieceList pieces = imageNumbered(image);
        if (pieces == null || !pieces.has(k)) {
            return -1L;
        }
        return ((long) pieces.endOf(k) << 32) + (pieces.idOf(k) & 0xFFFFFFFFL);
    }

    public boolean damage(int where, int image, int k, int at, int v) {
        PieceList pieces = imageNumbered(image);
        if ((where != 0 && where != 1) || pieces == null || !pieces.has(k)) {
            return false;
        }
        Keep keep = where == 0 ? store : cache;
        int id = pieces.idOf(k);
        if (at == -1) {
            return keep.takeOut(keep.placeOf(id));
        }
        Bytes kept = keep.bytesUnder(id);
        return kept != null && isByte(v) && kept.change(at, v);
    }

    public boolean seed(int s) {
        if (!isSeed(s)) {
            return false;
        }
        tree.writeStream(seeds[s].bytes());
        seeds[s].cutWith(cutter);
        return true;
    }

    public boolean alter(int s, int at, int v) {
        return isSeed(s) && isByte(v) && seeds[s].bytes().change(at, v);
    }

    public int scan(int s) {
        return isSeed(s) ? seeds[s].cutWith(cutter) : -1;
    }

    public int extract(int image) {
        PieceList pieces = imageNumbered(image);
        if (pieces == null) {
            return -1;
        }
        written.clear();
        for (int i = 0; i < KINDS_OF_COUNTS; i++) {
            tally[i] = 0;
        }
        for (int k = 0; k < pieces.count(); k++) {
            if (!writePiece(pieces, k)) {
                written.clear();
                return -2 - k;
            }
        }
        return written.count();
    }

    public int counts(int what) {
        return what >= 0 && what < KINDS_OF_COUNTS ? tally[what] : -1;
    }

    public int output(int i) {
        if (i == -1) {
            return written.count();
        }
        return written.has(i) ? written.at(i) : -2;
    }

    public boolean spoil(int i, int v) {
        if (v == -1) {
            return written.keepFirst(i);
        }
        if (!isByte(v)) {
            return false;
        }
        return i == written.count() ? written.add(v) : written.change(i, v);
    }

    public int unpack() {
        int answer = new TreeReader(written, spareTree).readAll();
        if (answer >= 0) {
            Tree old = tree;
            tree = spareTree;
            spareTree = old;
        }
        return answer;
    }

    public int size(int what) {
        switch (what) {
            case 0:
                return tree.entries();
            case 1:
                return tree.fileBytes();
            case 2:
                tree.writeStream(stream);
                return stream.count();
            case 3:
                return imagesThere();
            case 4:
                return store.count();
            case 5:
                return store.bytesInAll();
            case 6:
                return cache.count();
            case 7:
                return cache.bytesInAll();
            default:
                return -1;
        }
    }

    private static boolean isByte(int v) {
        return v >= 0 && v <= 255;
    }

    private static boolean isSeed(int s) {
        return s >= 0 && s < SEEDS;
    }

    // Every stream has at least two bytes, so an image that is there has a piece.
    private PieceList imageNumbered(int image) {
        if (image < 0 || image >= MOST_IMAGES || images[image].count() == 0) {
            return null;
        }
        return images[image];
    }

    private int freeImage() {
        for (int i = 0; i < MOST_IMAGES; i++) {
            if (imageNumbered(i) == null) {
                return i;
            }
        }
        return NONE;
    }

    private int imagesThere() {
        int there = 0;
        for (int i = 0; i < MOST_IMAGES; i++) {
            if (imageNumbered(i) != null) {
                there++;
            }
        }
        return there;
    }

    private boolean isIdOfAnImage(int id) {
        for (int i = 0; i < MOST_IMAGES; i++) {
            if (images[i].firstWithId(id) != NONE) {
                return true;
            }
        }
        return false;
    }

    private int idsNewToStore(PieceList pieces) {
        int fresh = 0;
        for (int k = 0; k < pieces.count(); k++) {
            int id = pieces.idOf(k);
            if (store.placeOf(id) == NONE && pieces.firstWithId(id) == k) {
                fresh++;
            }
        }
        return fresh;
    }

    private void storePieces(PieceList pieces) {
        for (int k = 0; k < pieces.count(); k++) {
            int id = pieces.idOf(k);
            // Bytes already under the id stay, even damaged ones.
            if (store.placeOf(id) == NONE) {
                store.put(id, stream, pieces.startOf(k), pieces.lengthOf(k));
            }
        }
    }

    private boolean writePiece(PieceList pieces, int k) {
        int id = pieces.idOf(k);
        int length = pieces.lengthOf(k);
        return writeAgain(pieces, k)
                || writeCached(id, length)
                || writeSeeded(id, length)
                || writeAsked(id, length);
    }

    private boolean writeAgain(PieceList pieces, int k) {
        int first = pieces.firstLike(pieces.idOf(k), pieces.lengthOf(k));
        if (first == NONE || first >= k) {
            return false;
        }
        written.addFrom(written, pieces.startOf(first), pieces.lengthOf(first));
        tally[AGAIN]++;
        return true;
    }

    private boolean writeCached(int id, int length) {
        Bytes kept = cache.goodBytes(id, length);
        if (kept == null) {
            return false;
        }
        written.addFrom(kept, 0, length);
        tally[CACHED]++;
        return true;
    }

    private boolean writeSeeded(int id, int length) {
        for (int s = 0; s < SEEDS; s++) {
            int start = seeds[s].startOfGood(id, length);
            if (start != NONE) {
                written.addFrom(seeds[s].bytes(), start, length);
                tally[SEEDED]++;
                return true;
            }
        }
        return false;
    }

    private boolean writeAsked(int id, int length) {
        tally[ASKED]++;
        Bytes kept = store.goodBytes(id, length);
        if (kept == null) {
            return false;
        }
        written.addFrom(kept, 0, length);
        cache.put(id, kept, 0, length);
        return true;
    }

    /** A row of bytes 0 .. 255 with a fixed room, made once and filled again and again. */
    private static final class Bytes {
        private static final int FIRST_HASH = 17;
        private static final int HASH_FACTOR = 16777619;

        private final int[] data;
        private int count;

        Bytes(int room) {
            data = new int[room];
        }

        int count() {
            return count;
        }

        boolean has(int place) {
            return place >= 0 && place < count;
        }

        int at(int place) {
            return has(place) ? data[place] : 0;
        }

        boolean change(int place, int v) {
            if (!has(place)) {
                return false;
            }
            data[place] = v & 255;
            return true;
        }

        boolean add(int v) {
            if (count >= data.length) {
                return false;
            }
            data[count] = v & 255;
            count++;
            return true;
        }

        void addFrom(Bytes other, int start, int n) {
            for (int i = 0; i < n; i++) {
                add(other.at(start + i));
            }
        }

        boolean keepFirst(int n) {
            if (n < 0 || n > count) {
                return false;
            }
            count = n;
            return true;
        }

        void clear() {
            count = 0;
        }

        int idOf(int start, int n) {
            int h = FIRST_HASH;
            for (int i = 0; i < n; i++) {
                h = (h ^ at(start + i)) * HASH_FACTOR;
            }
            return h ^ (h >>> 16);
        }
    }

    /** Finds where pieces end. */
    private static final class Cutter {
        private static final int MARK_FACTOR = -1640531535;

        private final int least;
        private final int mean;
        private final int most;

        Cutter(int least, int mean, int most) {
            boolean fits = LOWEST_LEAST <= least && least <= mean && mean <= most && most <= HIGHEST_MOST;
            this.least = fits ? least : USUAL_LEAST;
            this.mean = fits ? mean : USUAL_MEAN;
            this.most = fits ? most : USUAL_MOST;
        }

        void cut(Bytes bytes, PieceList pieces) {
            pieces.clear();
            int start = 0;
            for (int end = 1; end <= bytes.count(); end++) {
                if (isEnd(bytes, start, end)) {
                    pieces.add(end, bytes.idOf(start, end - start));
                    start = end;
                }
            }
        }

        private boolean isEnd(Bytes bytes, int start, int end) {
            int n = end - start;
            if (end == bytes.count() || n == most) {
                return true;
            }
            return n >= least && markBefore(bytes, end) % mean == mean - 1;
        }

        private static int markBefore(Bytes bytes, int end) {
            int a = spread(bytes.at(end - 4));
            int b = spread(bytes.at(end - 3));
            int c = spread(bytes.at(end - 2));
            int d = spread(bytes.at(end - 1));
            return (turnLeft(a, 3) ^ turnLeft(b, 2) ^ turnLeft(c, 1) ^ d) >>> 1;
        }

        private static int spread(int x) {
            return (x + 1) * MARK_FACTOR;
        }

        private static int turnLeft(int y, int k) {
            return (y << k) | (y >>> (32 - k));
        }
    }

    /** The ends and ids of pieces that lie one behind the other. */
    private static final class PieceList {
        private final int[] ends = new int[MOST_PIECES];
        private final int[] ids = new int[MOST_PIECES];
        private int count;

        int count() {
            return count;
        }

        boolean has(int k) {
            return k >= 0 && k < count;
        }

        int endOf(int k) {
            return k >= 0 && k < count ? ends[k] : 0;
        }

        int startOf(int k) {
            return endOf(k - 1);
        }

        int lengthOf(int k) {
            return endOf(k) - startOf(k);
        }

        int idOf(int k) {
            return has(k) ? ids[k] : 0;
        }

        void add(int end, int id) {
            if (count < MOST_PIECES) {
                ends[count] = end;
                ids[count] = id;
                count++;
            }
        }

        void clear() {
            count = 0;
        }

        int firstWithId(int id) {
            for (int k = 0; k < count; k++) {
                if (ids[k] == id) {
                    return k;
                }
            }
            return NONE;
        }

        int firstLike(int id, int length) {
            for (int k = 0; k < count; k++) {
                if (ids[k] == id && lengthOf(k) == length) {
                    return k;
                }
            }
            return NONE;
        }

        int rootId() {
            int[] level = ids.clone();
            for (int left = count; left > 1; left = (left + 1) / 2) {
                joinPairs(level, left);
            }
            return level[0];
        }

        private static void joinPairs(int[] level, int n) {
            for (int i = 0; i < n; i += 2) {
                level[i / 2] = i + 1 < n ? joined(level[i], level[i + 1]) : level[i];
            }
        }

        private static int joined(int p, int q) {
            return (p * 31 + q) ^ (q >>> 7);
        }
    }

    /** Bytes under ids, the id that came first in front. */
    private static final class Keep {
        private final int[] ids;
        private final Bytes[] rows;
        private int count;

        Keep(int room) {
            ids = new int[room];
            rows = new Bytes[room];
            for (int i = 0; i < room; i++) {
                rows[i] = new Bytes(HIGHEST_MOST);
            }
        }

        int count() {
            return count;
        }

        int idAt(int place) {
            return place >= 0 && place < count ? ids[place] : 0;
        }

        int placeOf(int id) {
            for (int i = 0; i < count; i++) {
                if (ids[i] == id) {
                    return i;
                }
            }
            return NONE;
        }

        Bytes bytesUnder(int id) {
            int place = placeOf(id);
            return place == NONE ? null : rows[place];
        }

        Bytes goodBytes(int id, int length) {
            Bytes kept = bytesUnder(id);
            boolean good = kept != null && kept.count() == length && kept.idOf(0, length) == id;
            return good ? kept : null;
        }

        void put(int id, Bytes from, int start, int n) {
            int place = placeOf(id);
            if (place == NONE) {
                place = placeForNew(id);
            }
            rows[place].clear();
            rows[place].addFrom(from, start, n);
        }

        private int placeForNew(int id) {
            if (count == ids.length) {
                takeOut(0);
            }
            ids[count] = id;
            count++;
            return count - 1;
        }

        boolean takeOut(int place) {
            if (place < 0 || place >= count) {
                return false;
            }
            Bytes freed = rows[place];
            count--;
            for (int i = place; i < count; i++) {
                ids[i] = ids[i + 1];
                rows[i] = rows[i + 1];
            }
            rows[count] = freed;
            return true;
        }

        int bytesInAll() {
            int sum = 0;
            for (int i = 0; i < count; i++) {
                sum += rows[i].count();
            }
            return sum;
        }
    }

    /** Local bytes, and the pieces they had when they were last cut. */
    private static final class Seed {
        private final Bytes bytes = new Bytes(MOST_STREAM_BYTES);
        private final PieceList pieces = new PieceList();

        Bytes bytes() {
            return bytes;
        }

        int cutWith(Cutter cutter) {
            cutter.cut(bytes, pieces);
            return pieces.count();
        }

        int startOfGood(int id, int length) {
            for (int k = 0; k < pieces.count(); k++) {
                int start = pieces.startOf(k);
                // The list may be older than the bytes, so they are looked at anew.
                if (pieces.idOf(k) == id && pieces.lengthOf(k) == length && bytes.idOf(start, length) == id) {
                    return start;
                }
            }
            return NONE;
        }
    }

    /** The directory tree: a table of slots, the root in slot 0; a slot of kind 0 is free. */
    private static final class Tree {
        static final int ROOT = 0;
        private static final int FREE = 0;
        private static final int SLOTS = MOST_ENTRIES + 1;

        private final int[] kinds = new int[SLOTS];
        private final int[] names = new int[SLOTS];
        private final int[] parents = new int[SLOTS];
        private final Bytes[] contents = new Bytes[SLOTS];

        Tree() {
            for (int slot = 0; slot < SLOTS; slot++) {
                contents[slot] = new Bytes(MOST_FILE_BYTES);
            }
            kinds[ROOT] = DIRECTORY;
            parents[ROOT] = NONE;
        }

        static int namesIn(int path) {
            int n = 0;
            while (n < MOST_NAMES && nameIn(path, n) != 0) {
                n++;
            }
            return n;
        }

        static int nameIn(int path, int k) {
            return (path >>> (NAME_BITS * k)) & MOST_NAME;
        }

        static boolean isPath(int path) {
            return path >>> (NAME_BITS * namesIn(path)) == 0;
        }

        static int lastNameOf(int path) {
            return nameIn(path, Math.max(0, namesIn(path) - 1));
        }

        static int pathOfParent(int path) {
            int kept = Math.max(0, namesIn(path) - 1);
            return path & ((1 << (NAME_BITS * kept)) - 1);
        }

        void clear() {
            for (int slot = ROOT + 1; slot < SLOTS; slot++) {
                kinds[slot] = FREE;
            }
        }

        int find(int path) {
            if (!isPath(path)) {
                return NONE;
            }
            int slot = ROOT;
            int n = namesIn(path);
            for (int k = 0; k < n && slot != NONE; k++) {
                slot = childNamed(slot, nameIn(path, k));
            }
            return slot;
        }

        boolean isDirectory(int slot) {
            return isSlot(slot) && kinds[slot] == DIRECTORY;
        }

        Bytes fileAt(int path) {
            int slot = find(path);
            return isSlot(slot) && kinds[slot] == FILE ? contents[slot] : null;
        }

        Bytes contentOf(int slot) {
            return isSlot(slot) ? contents[slot] : null;
        }

        int parentOf(int slot) {
            return isSlot(slot) ? parents[slot] : NONE;
        }

        int childNamed(int directory, int name) {
            for (int slot = ROOT + 1; slot < SLOTS; slot++) {
                if (isChild(slot, directory) && names[slot] == name) {
                    return slot;
                }
            }
            return NONE;
        }

        int childrenOf(int directory) {
            int n = 0;
            for (int slot = ROOT + 1; slot < SLOTS; slot++) {
                if (isChild(slot, directory)) {
                    n++;
                }
            }
            return n;
        }

        int greatestNameIn(int directory) {
            int greatest = 0;
            for (int slot = ROOT + 1; slot < SLOTS; slot++) {
                if (isChild(slot, directory)) {
                    greatest = Math.max(greatest, names[slot]);
                }
            }
            return greatest;
        }

        int depthOf(int slot) {
            int depth = 0;
            int above = parentOf(slot);
            while (above != NONE && depth < MOST_NAMES) {
                depth++;
                above = parentOf(above);
            }
            return depth;
        }

        int addEntry(int parent, int name, int kind) {
            for (int slot = ROOT + 1; slot < SLOTS; slot++) {
                if (kinds[slot] == FREE) {
                    kinds[slot] = kind;
                    names[slot] = name;
                    parents[slot] = parent;
                    contents[slot].clear();
                    return slot;
                }
            }
            return NONE;
        }

        int takeAway(int top) {
            int gone = 0;
            for (int slot = ROOT + 1; slot < SLOTS; slot++) {
                if (kinds[slot] != FREE && liesIn(slot, top)) {
                    // Its parent stays written down: entries below it are still to be found.
                    kinds[slot] = FREE;
                    gone++;
                }
            }
            return gone;
        }

        int entries() {
            int n = 0;
            for (int slot = ROOT + 1; slot < SLOTS; slot++) {
                if (kinds[slot] != FREE) {
                    n++;
                }
            }
            return n;
        }

        int fileBytes() {
            int sum = 0;
            for (int slot = ROOT + 1; slot < SLOTS; slot++) {
                if (kinds[slot] == FILE) {
                    sum += contents[slot].count();
                }
            }
            return sum;
        }

        void writeStream(Bytes to) {
            to.clear();
            int directory = ROOT;
            int name = 0;
            // Every entry is begun once, and every directory, the root too, is ended once.
            for (int step = 0; step < 2 * SLOTS && directory != NONE; step++) {
                int child = childBehind(directory, name);
                if (child == NONE) {
                    to.add(END_MARK);
                    to.add(childrenOf(directory));
                    name = names[directory];
                    directory = parents[directory];
                } else if (kinds[child] == FILE) {
                    writeFile(child, to);
                    name = names[child];
                } else {
                    to.add(DIRECTORY);
                    to.add(names[child]);
                    name = 0;
                    directory = child;
                }
            }
        }

        private void writeFile(int slot, Bytes to) {
            Bytes content = contents[slot];
            to.add(FILE);
            to.add(names[slot]);
            to.add(content.count());
            to.addFrom(content, 0, content.count());
        }

        private int childBehind(int directory, int name) {
            int best = NONE;
            for (int slot = ROOT + 1; slot < SLOTS; slot++) {
                if (isChild(slot, directory) && names[slot] > name && (best == NONE || names[slot] < names[best])) {
                    best = slot;
                }
            }
            return best;
        }

        private boolean isChild(int slot, int directory) {
            return kinds[slot] != FREE && parents[slot] == directory;
        }

        private boolean liesIn(int slot, int top) {
            int at = slot;
            for (int up = 0; up <= MOST_NAMES && at != NONE; up++) {
                if (at == top) {
                    return true;
                }
                at = parentOf(at);
            }
            return false;
        }

        private static boolean isSlot(int slot) {
            return slot >= 0 && slot < SLOTS;
        }
    }

    /** Reads a stream into a tree, up to the first byte that isn't as it must be. */
    private static final class TreeReader {
        private final Bytes from;
        private final Tree into;
        private int place;
        private boolean faulty;

        TreeReader(Bytes from, Tree into) {
            this.from = from;
            this.into = into;
        }

        int readAll() {
            into.clear();
            int directory = Tree.ROOT;
            // A part that is no fault takes at least two bytes, so these parts are enough.
            for (int part = 0; part <= from.count() && directory != NONE && !faulty; part++) {
                directory = readPart(directory);
            }
            if (faulty || place < from.count()) {
                return -1 - place;
            }
            return into.entries();
        }

        // Answers the directory in which the next part lies, NONE behind the root's end.
        private int readPart(int directory) {
            int kind = takeKind(directory);
            if (kind == END_MARK) {
                int children = into.childrenOf(directory);
                take(children, children);
                return into.parentOf(directory);
            }
            int name = take(into.greatestNameIn(directory) + 1, MOST_NAME);
            if (faulty) {
                return directory;
            }
            int entry = into.addEntry(directory, name, kind);
            if (kind == DIRECTORY) {
                return entry;
            }
            readFile(into.contentOf(entry));
            return directory;
        }

        private int takeKind(int directory) {
            boolean mayGrow = into.entries() < MOST_ENTRIES && into.depthOf(directory) < MOST_NAMES;
            boolean isEntry = from.at(place) == FILE || from.at(place) == DIRECTORY;
            return mayGrow && isEntry ? take(FILE, DIRECTORY) : take(END_MARK, END_MARK);
        }

        private void readFile(Bytes content) {
            int n = take(0, Math.min(MOST_FILE_BYTES, MOST_TREE_BYTES - into.fileBytes()));
            for (int i = 0; i < n && content != null; i++) {
                content.add(take(0, 255));
            }
        }

        // A fault stays at its place: behind it nothing more is taken.
        private int take(int lowest, int highest) {
            int next = from.at(place);
            if (faulty || !from.has(place) || next < lowest || next > highest) {
                faulty = true;
                return NONE;
            }
            place++;
            return next;
        }
    }
}
