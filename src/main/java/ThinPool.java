import java.util.Arrays;

/**
 * Volumes that take blocks of one pool as they need them, and snapshots of them.
 *
 * A volume is a tree of three levels: a root, leaves, and a block of bytes for each piece
 * that was written. Trees share blocks, and a block that several ways lead to, or that is
 * kept, is copied before it changes. What is now lies in memory; keep() writes it to the
 * medium, and mount() finds it there by the newer one of the two heads.
 */
public final class ThinPool {
    public static final int BAD = -1, OFF = -2, FULL = -3;

    private static final int VOLUMES = 16;
    private static final int PIECES = 128;
    private static final int MOST_PIECES = 300;
    private static final int NOTES = 32;

    private static final int BYTES = 128;
    private static final int WORDS = 16;
    private static final int HALF = 8;

    // Blocks by number: the two heads, the tables of each, then the pool.
    private static final int HEADS = 2;
    private static final int TABLE_BLOCKS = 7;
    private static final int POOL_START = HEADS + HEADS * TABLE_BLOCKS;

    // What is now and what is kept can have 300 pieces, 16 roots and 64 leaves each, all of
    // them different; a copy is taken before its model is released, so a few more are needed.
    private static final int POOL = 768;
    private static final int BLOCKS = POOL_START + POOL;

    // No tree leads to a head, so the first head's number can stand for no block at all.
    private static final int NONE = 0;

    private static final int DATA = 0;
    private static final int LEAF = 1;
    private static final int ROOT = 2;
    private static final int LEAVES = 4;
    private static final int LEAF_PIECES = 32;
    private static final int SIZE_WORD = 15;

    private static final int ALL_DOWN = 1;
    private static final int FIRST_HALF_DOWN = 2;
    private static final int LAST_HALF_DOWN = 3;
    private static final int BLOCKS_WITH_BITS = 32;

    // In the head's first half, since that is the half that makes it count.
    private static final int NUMBER_WORD = 0;

    private final Image memory;
    private final Image medium;
    private final Trees trees;
    private final Tables ofFirstHeadDown;
    private final Tables ofSecondHeadDown;
    private final Audit audit;
    private int head;
    private boolean on;

    public ThinPool() {
        memory = new Image();
        medium = new Image();
        trees = new Trees(memory);
        ofFirstHeadDown = new Tables(medium, 0);
        ofSecondHeadDown = new Tables(medium, 1);
        audit = new Audit();
        layEmpty();
    }

    public int lay() {
        layEmpty();
        return 0;
    }

    public int make(int volume) {
        if (!on) {
            return OFF;
        }
        if (!isVolume(volume) || isThere(volume)) {
            return BAD;
        }
        trees.addEmpty(volume);
        return 0;
    }

    public int snap(int volume, int of) {
        if (!on) {
            return OFF;
        }
        if (!isVolume(volume) || isThere(volume) || !isThere(of)) {
            return BAD;
        }
        int size = trees.sizeOf(of);
        if (trees.sizeOfAll() + size > MOST_PIECES) {
            return FULL;
        }
        trees.addTwin(volume, of);
        return size;
    }

    public int remove(int volume) {
        if (!on) {
            return OFF;
        }
        if (!isThere(volume)) {
            return BAD;
        }
        int size = trees.sizeOf(volume);
        trees.dropVolume(volume);
        return size;
    }

    public int write(int volume, int piece, int at, int n, int value) {
        if (!on) {
            return OFF;
        }
        if (!isThere(volume) || !isPiece(piece) || !areBytes(at, n) || !isByte(value)) {
            return BAD;
        }
        if (trees.find(volume, piece) == NONE && trees.sizeOfAll() >= MOST_PIECES) {
            return FULL;
        }
        int block = trees.ownPiece(volume, piece);
        for (int i = at; i < at + n; i++) {
            memory.setByte(block, i, value);
        }
        return trees.sizeOf(volume);
    }

    public int read(int volume, int piece, int at) {
        if (!on) {
            return OFF;
        }
        if (!isThere(volume) || !isPiece(piece) || !areBytes(at, 1)) {
            return BAD;
        }
        int block = trees.find(volume, piece);
        return block == NONE ? 0 : memory.byteAt(block, at);
    }

    public int trim(int volume, int from, int to) {
        if (!on) {
            return OFF;
        }
        if (!isThere(volume) || !isPiece(from) || !isPiece(to) || to < from) {
            return BAD;
        }
        int written = 0;
        for (int piece = from; piece <= to; piece++) {
            if (trees.find(volume, piece) != NONE) {
                trees.dropPiece(volume, piece);
                written++;
            }
        }
        return written;
    }

    public int pieces(int volume) {
        if (!on) {
            return OFF;
        }
        if (volume == -1) {
            return trees.sizeOfAll();
        }
        return isThere(volume) ? trees.sizeOf(volume) : BAD;
    }

    public int next(int volume, int piece) {
        if (!on) {
            return OFF;
        }
        if (!isThere(volume) || !isPiece(piece)) {
            return BAD;
        }
        for (int i = piece; i < PIECES; i++) {
            if (trees.find(volume, i) != NONE) {
                return i;
            }
        }
        return PIECES;
    }

    public int shared(int volume, int piece) {
        if (!on) {
            return OFF;
        }
        if (!isThere(volume) || !isPiece(piece)) {
            return BAD;
        }
        int block = trees.find(volume, piece);
        if (block == NONE) {
            return 0;
        }
        // The block's own count does not tell: a leaf that two volumes share counts once.
        for (int other = 0; other < VOLUMES; other++) {
            if (other != volume && trees.find(other, piece) == block) {
                return 1;
            }
        }
        return 0;
    }

    public int tell(int i, int v) {
        if (!on) {
            return OFF;
        }
        if (!isNote(i) || !isByte(v)) {
            return BAD;
        }
        int before = trees.now.noteAt(i);
        trees.now.setNote(i, v);
        return before;
    }

    public int told(int i) {
        if (!on) {
            return OFF;
        }
        return isNote(i) ? trees.now.noteAt(i) : BAD;
    }

    public int keep(int stop, long bits) {
        if (!on) {
            return OFF;
        }
        if (stop < 0 || stop > 2) {
            return BAD;
        }
        writeBlocks(stop == 1, bits);
        if (stop == 1) {
            losePower();
            return OFF;
        }
        writeOtherHead(stop == 2, bits);
        if (stop == 2) {
            losePower();
            return OFF;
        }
        goOnFrom(otherHead());
        return trees.sizeOfAll();
    }

    public int fail() {
        if (!on) {
            return OFF;
        }
        losePower();
        return 0;
    }

    public int mount() {
        if (on) {
            return BAD;
        }
        memory.receiveAll(medium);
        goOnFrom(newerHead());
        on = true;
        return trees.sizeOfAll();
    }

    public int count(int which) {
        if (!on) {
            return OFF;
        }
        switch (which) {
            case 0:
                return countVolumes();
            case 1:
                // lay() wrote number 1, and each keep() that counted the one behind it.
                return keptNumber() - 1;
            default:
                return BAD;
        }
    }

    public int check() {
        if (!on) {
            return OFF;
        }
        int fault = audit.firstFault(memory, trees.now);
        if (fault == NONE) {
            // These counts, and not those on the medium, say which blocks are not written over.
            fault = audit.firstFault(memory, trees.kept);
        }
        return fault != NONE ? fault : audit.firstFault(medium, tablesDown());
    }

    private static boolean isVolume(int volume) {
        return volume >= 0 && volume < VOLUMES;
    }

    private static boolean isPiece(int piece) {
        return piece >= 0 && piece < PIECES;
    }

    private static boolean areBytes(int at, int n) {
        return n >= 1 && n <= BYTES && at >= 0 && at <= BYTES - n;
    }

    private static boolean isByte(int value) {
        return value >= 0 && value <= 255;
    }

    private static boolean isNote(int i) {
        return i >= 0 && i < NOTES;
    }

    private boolean isThere(int volume) {
        return isVolume(volume) && trees.now.rootOf(volume) != NONE;
    }

    private int countVolumes() {
        int there = 0;
        for (int volume = 0; volume < VOLUMES; volume++) {
            if (isThere(volume)) {
                there++;
            }
        }
        return there;
    }

    /** The pool's own blocks stay as they are: with all counts 0 nothing leads to them. */
    private void layEmpty() {
        for (int block = 0; block < POOL_START; block++) {
            medium.blank(block);
        }
        medium.setWord(0, NUMBER_WORD, 1L);
        memory.receiveAll(medium);
        goOnFrom(0);
        on = true;
    }

    /** What is in memory goes with it, so that mount() has nothing but the medium. */
    private void losePower() {
        memory.forgetAll();
        on = false;
    }

    private Tables tablesDown() {
        return head == 0 ? ofFirstHeadDown : ofSecondHeadDown;
    }

    private int otherHead() {
        return 1 - head;
    }

    private int newerHead() {
        return medium.wordAt(1, NUMBER_WORD) > medium.wordAt(0, NUMBER_WORD) ? 1 : 0;
    }

    private int keptNumber() {
        return (int) memory.wordAt(head, NUMBER_WORD);
    }

    private void goOnFrom(int keptHead) {
        head = keptHead;
        trees.goOnFrom(keptHead);
    }

    private void writeBlocks(boolean stopped, long bits) {
        int place = 0;
        for (int block = POOL_START; block < BLOCKS; block++) {
            if (trees.isNew(block)) {
                medium.receive(memory, block, partDown(stopped, bits, place));
                place++;
            }
        }
        int tables = Tables.startOf(otherHead());
        for (int block = tables; block < tables + TABLE_BLOCKS; block++) {
            medium.receive(memory, block, partDown(stopped, bits, place));
            place++;
        }
    }

    private void writeOtherHead(boolean stopped, long bits) {
        memory.setWord(otherHead(), NUMBER_WORD, keptNumber() + 1L);
        medium.receive(memory, otherHead(), partDown(stopped, bits, 0));
    }

    private static int partDown(boolean stopped, long bits, int place) {
        if (!stopped) {
            return ALL_DOWN;
        }
        // A shift by 64 or more would begin with the lowest bits again.
        return place < BLOCKS_WITH_BITS ? (int) (bits >>> (2 * place)) & 3 : 0;
    }

    /** All blocks by number, eight bytes to a word; once in memory and once on the medium. */
    private static final class Image {
        private final long[] words = new long[BLOCKS * WORDS];

        long wordAt(int block, int i) {
            int at = block * WORDS + i;
            return at >= 0 && at < words.length ? words[at] : 0L;
        }

        void setWord(int block, int i, long value) {
            int at = block * WORDS + i;
            if (at >= 0 && at < words.length) {
                words[at] = value;
            }
        }

        int byteAt(int block, int i) {
            int at = block * WORDS + (i >> 3);
            return at >= 0 && at < words.length ? (int) (words[at] >>> ((i & 7) << 3)) & 0xFF : 0;
        }

        void setByte(int block, int i, int value) {
            int at = block * WORDS + (i >> 3);
            int shift = (i & 7) << 3;
            if (at >= 0 && at < words.length) {
                words[at] = words[at] & ~(0xFFL << shift) | (value & 0xFFL) << shift;
            }
        }

        int linkAt(int block, int i) {
            return (int) (wordAt(block, i >> 2) >>> ((i & 3) << 4)) & 0xFFFF;
        }

        void setLink(int block, int i, int link) {
            int shift = (i & 3) << 4;
            long rest = wordAt(block, i >> 2) & ~(0xFFFFL << shift);
            setWord(block, i >> 2, rest | (link & 0xFFFFL) << shift);
        }

        int sizeAt(int node) {
            return (int) wordAt(node, SIZE_WORD);
        }

        void addSize(int node, int more) {
            setWord(node, SIZE_WORD, wordAt(node, SIZE_WORD) + more);
        }

        void blank(int block) {
            for (int i = 0; i < WORDS; i++) {
                setWord(block, i, 0L);
            }
        }

        void duplicate(int from, int to) {
            for (int i = 0; i < WORDS; i++) {
                setWord(to, i, wordAt(from, i));
            }
        }

        void receive(Image source, int block, int part) {
            boolean first = part == ALL_DOWN || part == FIRST_HALF_DOWN;
            boolean last = part == ALL_DOWN || part == LAST_HALF_DOWN;
            for (int i = first ? 0 : HALF; i < (last ? WORDS : HALF); i++) {
                setWord(block, i, source.wordAt(block, i));
            }
        }

        void forgetAll() {
            Arrays.fill(words, 0L);
        }

        void receiveAll(Image source) {
            System.arraycopy(source.words, 0, words, 0, words.length);
        }
    }

    /** One head's tables: the volumes' roots and the notes, then a count for each block. */
    private static final class Tables {
        private static final int NOTES_AT = 2 * VOLUMES;

        private final Image image;
        private final int start;

        Tables(Image image, int head) {
            this.image = image;
            start = startOf(head);
        }

        static int startOf(int head) {
            return HEADS + head * TABLE_BLOCKS;
        }

        int rootOf(int volume) {
            return image.linkAt(start, volume);
        }

        void setRoot(int volume, int root) {
            image.setLink(start, volume, root);
        }

        int noteAt(int i) {
            return image.byteAt(start, NOTES_AT + i);
        }

        void setNote(int i, int value) {
            image.setByte(start, NOTES_AT + i, value);
        }

        int waysTo(int block) {
            int i = block - POOL_START;
            return i >= 0 && i < POOL ? image.byteAt(start + 1 + i / BYTES, i % BYTES) : 0;
        }

        void setWays(int block, int ways) {
            int i = block - POOL_START;
            if (i >= 0 && i < POOL) {
                image.setByte(start + 1 + i / BYTES, i % BYTES, ways);
            }
        }

        void becomeLike(Tables model) {
            for (int i = 0; i < TABLE_BLOCKS; i++) {
                image.duplicate(model.start + i, start + i);
            }
        }
    }

    /** The volumes' trees in memory, and which blocks of the pool they take. */
    private static final class Trees {
        private final Image image;
        private final Tables ofFirstHead;
        private final Tables ofSecondHead;
        private Tables now;
        private Tables kept;
        // The search for a free block goes on from the last one, so that it is short.
        private int hand = POOL_START;

        Trees(Image image) {
            this.image = image;
            ofFirstHead = new Tables(image, 0);
            ofSecondHead = new Tables(image, 1);
            kept = ofFirstHead;
            now = ofSecondHead;
        }

        /** What is now lies in the other head's tables, where the next keep() wants it. */
        void goOnFrom(int keptHead) {
            kept = keptHead == 0 ? ofFirstHead : ofSecondHead;
            now = keptHead == 0 ? ofSecondHead : ofFirstHead;
            now.becomeLike(kept);
        }

        /** Taken since keep(), and so not on the medium, and free to be changed there. */
        boolean isNew(int block) {
            return now.waysTo(block) > 0 && kept.waysTo(block) == 0;
        }

        int sizeOf(int volume) {
            int root = now.rootOf(volume);
            return root == NONE ? 0 : image.sizeAt(root);
        }

        int sizeOfAll() {
            int size = 0;
            for (int volume = 0; volume < VOLUMES; volume++) {
                size += sizeOf(volume);
            }
            return size;
        }

        int find(int volume, int piece) {
            int root = now.rootOf(volume);
            int leaf = root == NONE ? NONE : image.linkAt(root, piece / LEAF_PIECES);
            return leaf == NONE ? NONE : image.linkAt(leaf, piece % LEAF_PIECES);
        }

        void addEmpty(int volume) {
            now.setRoot(volume, takeBlank());
        }

        void addTwin(int volume, int of) {
            int root = now.rootOf(of);
            now.setRoot(volume, root);
            addWay(root);
        }

        void dropVolume(int volume) {
            release(now.rootOf(volume), ROOT);
            now.setRoot(volume, NONE);
        }

        /** The block of a piece, to be changed: from the root down no other way leads there. */
        int ownPiece(int volume, int piece) {
            int root = ownRoot(volume);
            int leaf = ownLink(root, piece / LEAF_PIECES, LEAF);
            if (image.linkAt(leaf, piece % LEAF_PIECES) == NONE) {
                image.addSize(root, 1);
                image.addSize(leaf, 1);
            }
            return ownLink(leaf, piece % LEAF_PIECES, DATA);
        }

        /** The piece must be a written one. */
        void dropPiece(int volume, int piece) {
            int root = ownRoot(volume);
            int leaf = ownLink(root, piece / LEAF_PIECES, LEAF);
            image.addSize(root, -1);
            image.addSize(leaf, -1);
            dropLink(leaf, piece % LEAF_PIECES, DATA);
            if (image.sizeAt(leaf) == 0) {
                dropLink(root, piece / LEAF_PIECES, LEAF);
            }
        }

        private int ownRoot(int volume) {
            int root = own(now.rootOf(volume), ROOT);
            now.setRoot(volume, root);
            return root;
        }

        private int ownLink(int node, int i, int level) {
            int block = image.linkAt(node, i);
            int owned = block == NONE ? takeBlank() : own(block, level);
            image.setLink(node, i, owned);
            return owned;
        }

        private void dropLink(int node, int i, int level) {
            release(image.linkAt(node, i), level);
            image.setLink(node, i, NONE);
        }

        /** The block itself if nobody else needs it as it is, or else a copy of it. */
        private int own(int block, int level) {
            if (now.waysTo(block) == 1 && kept.waysTo(block) == 0) {
                return block;
            }
            int copy = take();
            image.duplicate(block, copy);
            for (int i = 0; i < linksOf(level); i++) {
                addWay(image.linkAt(copy, i));
            }
            release(block, level);
            return copy;
        }

        private int takeBlank() {
            int block = take();
            image.blank(block);
            return block;
        }

        /** By the pool's size there always is one that is in no way needed. */
        private int take() {
            for (int i = 0; i < POOL; i++) {
                hand = hand + 1 < BLOCKS ? hand + 1 : POOL_START;
                if (now.waysTo(hand) == 0 && kept.waysTo(hand) == 0) {
                    now.setWays(hand, 1);
                    return hand;
                }
            }
            return NONE;
        }

        private void addWay(int block) {
            now.setWays(block, now.waysTo(block) + 1);
        }

        /** One way less leads to the block; with the last one, those from it are gone too. */
        private void release(int block, int level) {
            int ways = now.waysTo(block);
            if (ways == 0) {
                return;
            }
            now.setWays(block, ways - 1);
            if (ways > 1) {
                return;
            }
            for (int i = 0; i < linksOf(level); i++) {
                release(image.linkAt(block, i), level - 1);
            }
        }

        static int linksOf(int level) {
            return level == ROOT ? LEAVES : level == LEAF ? LEAF_PIECES : 0;
        }
    }

    /** Goes every way from the roots down, and holds what it met against the tables. */
    private static final class Audit {
        // Above any number of ways, so that one number tells a block's level and its ways.
        private static final int PER_LEVEL = 65536;

        private final int[] met = new int[POOL];

        /** The number of a block that is not in order, or NONE. */
        int firstFault(Image image, Tables tables) {
            Arrays.fill(met, 0);
            for (int volume = 0; volume < VOLUMES; volume++) {
                int fault = visit(image, tables.rootOf(volume), ROOT);
                if (fault != NONE) {
                    return fault;
                }
            }
            for (int i = 0; i < POOL; i++) {
                if (met[i] % PER_LEVEL != tables.waysTo(POOL_START + i)) {
                    return POOL_START + i;
                }
            }
            return NONE;
        }

        private int visit(Image image, int block, int level) {
            if (block == NONE) {
                return NONE;
            }
            int i = block - POOL_START;
            if (i < 0 || i >= POOL) {
                return block;
            }
            if (met[i] > 0) {
                int levelBefore = met[i] / PER_LEVEL;
                met[i]++;
                return levelBefore == level ? NONE : block;
            }
            met[i] = level * PER_LEVEL + 1;
            return level > DATA ? visitLinks(image, block, level) : NONE;
        }

        private int visitLinks(Image image, int node, int level) {
            int size = 0;
            for (int i = 0; i < Trees.linksOf(level); i++) {
                int link = image.linkAt(node, i);
                int fault = visit(image, link, level - 1);
                if (fault != NONE) {
                    return fault;
                }
                size += link == NONE ? 0 : level == LEAF ? 1 : image.sizeAt(link);
            }
            boolean emptyLeaf = level == LEAF && size == 0;
            return size == image.sizeAt(node) && !emptyLeaf ? NONE : node;
        }
    }
}
