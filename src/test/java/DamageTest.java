/** Damage is done behind the class's back, and check() must answer other than 0. */
public final class DamageTest {
    private static final int WORDS = Inside.WORDS;
    private static final int POOL_START = 16;
    private static final int BLOCKS = 784;
    private static final int[] TABLES = {2, 9};
    private static final int SIZE_WORD = 15;
    private static final Due DUE = new Due();

    public static void main(String[] args) {
        damageWithHead(1);
        damageWithHead(0);
        DUE.end();
    }

    /** What is kept lies in the given head's tables, and what is now in those of the other. */
    private static void damageWithHead(int head) {
        ThinPool x = inUse(head == 1 ? 1 : 2);
        DUE.same("check() with no damage", x.check(), 0);
        damageAll(x, "now", Inside.words(x, "memory"), TABLES[1 - head]);
        damageAll(x, "kept, in memory", Inside.words(x, "memory"), TABLES[head]);
        damageAll(x, "kept, on the medium", Inside.words(x, "medium"), TABLES[head]);
        damageOrder(x, "now", Inside.words(x, "memory"), TABLES[1 - head]);
        damageOrder(x, "kept, in memory", Inside.words(x, "memory"), TABLES[head]);
        damageOrder(x, "kept, on the medium", Inside.words(x, "medium"), TABLES[head]);
        DUE.same("check() with all damage mended", x.check(), 0);
    }

    private static ThinPool inUse(int keeps) {
        ThinPool x = new ThinPool();
        x.make(0);
        for (int p = 0; p < 40; p += 3) {
            x.write(0, p, 0, 128, p + 1);
        }
        x.snap(1, 0);
        for (int i = 0; i < keeps; i++) {
            x.write(0, 6, 0, 1, i);
            x.keep(0, 0);
        }
        x.write(1, 3, 0, 1, 9);
        x.make(2);
        x.write(2, 127, 127, 1, 1);
        return x;
    }

    private static void damageAll(ThinPool x, String name, long[] words, int tables) {
        for (int i = 0; i < 6 * WORDS; i++) {
            for (int b = 0; b < 8; b++) {
                damage(x, name + ": a count", words, (tables + 1) * WORDS + i, 1L << 8 * b);
            }
        }
        int root = (int) (words[tables * WORDS] & 0xFFFF);
        int leaf = (int) (words[root * WORDS] & 0xFFFF);
        int piece = (int) (words[leaf * WORDS] & 0xFFFF);
        damage(x, name + ": a volume without its root", words, tables * WORDS, root);
        damageLinks(x, name, words, tables * WORDS, root);
        damageLinks(x, name, words, root * WORDS, leaf);
        damageLinks(x, name, words, leaf * WORDS, piece);
        damage(x, name + ": a root that is a leaf", words, tables * WORDS, root ^ leaf);
        damage(x, name + ": one more volume", words, tables * WORDS + 3, root);
        damage(x, name + ": a root's size", words, root * WORDS + SIZE_WORD, 1);
        damage(x, name + ": a root without a leaf", words, root * WORDS, leaf);
        damage(x, name + ": a leaf that is a root", words, root * WORDS, leaf ^ root);
        damage(x, name + ": a leaf's size", words, leaf * WORDS + SIZE_WORD, 1);
        damage(x, name + ": a leaf without a piece", words, leaf * WORDS, piece);
        damage(x, name + ": a piece that is a leaf", words, leaf * WORDS, piece ^ leaf);
        damage(x, name + ": one more piece", words, leaf * WORDS, (long) piece << 16);
    }

    /** Links just outside of the pool at both its ends, and as far away as can be. */
    private static void damageLinks(ThinPool x, String name, long[] words, int at, int link) {
        for (int outside : new int[] {1, POOL_START - 1, BLOCKS, BLOCKS + 1, 0xFFFF}) {
            damage(x, name + ": a link to " + outside, words, at, link ^ outside);
        }
    }

    /** Damage that leaves all counts right: only the trees themselves are not in order. */
    private static void damageOrder(ThinPool x, String name, long[] words, int tables) {
        int root = (int) (words[tables * WORDS] & 0xFFFF);
        int leaf = (int) (words[root * WORDS] & 0xFFFF);
        int piece = (int) (words[leaf * WORDS] & 0xFFFF);
        int free = 783;
        long[] whole = words.clone();
        for (int link : new int[] {piece, free}) {
            words[piece * WORDS + SIZE_WORD] = 0;
            words[root * WORDS] |= (long) link << 48;
            words[(tables + 1) * WORDS + (link - POOL_START) / 8] += 1L << 8 * ((link - POOL_START) % 8);
            DUE.isTrue(name + ": a leaf that is " + (link == free ? "empty" : "a piece"), x.check() != 0);
            System.arraycopy(whole, 0, words, 0, words.length);
        }
    }

    private static void damage(ThinPool x, String what, long[] words, int at, long bits) {
        long before = words[at];
        words[at] = before ^ bits;
        int answer = x.check();
        words[at] = before;
        DUE.isTrue(what + " is found, not " + answer, answer != 0);
    }
}
