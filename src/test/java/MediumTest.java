import java.util.ArrayList;
import java.util.List;

/** What is on the medium behind a keep() that was stopped: the parts that the bits tell. */
public final class MediumTest {
    private static final int WORDS = Inside.WORDS;
    private static final int POOL_START = 16;
    private static final Due DUE = new Due();

    public static void main(String[] args) {
        for (long bits : new long[] {0, 1, 2, 3, -1, 0x1B1B1B1B1B1B1B1BL, 0xAAAAAAAAAAAAAAAAL, Long.MIN_VALUE}) {
            stopInBlocks(underWay(), bits);
            stopInBlocks(fewUnderWay(), bits);
            stopInHead(bits);
        }
        for (int place = 0; place < 32; place++) {
            for (long part = 1; part < 4; part++) {
                stopInBlocks(underWay(), part << 2 * place);
                stopInBlocks(fewUnderWay(), part << 2 * place);
            }
        }
        loseMemory();
        DUE.end();
    }

    /** The bits reach all of these: three blocks of the pool, and the tables. */
    private static ThinPool fewUnderWay() {
        ThinPool x = new ThinPool();
        x.make(0);
        writePieces(x, 0, 40);
        x.keep(0, 0);
        writePieces(x, 60, 61);
        x.tell(31, 255);
        DUE.same("blocks under way", blocksUnderWay(Inside.words(x, "memory")).size(), 3 + 7);
        return x;
    }

    /** Pieces 0 to 39 of volume 0 kept, then 50 more, which makes over 50 blocks under way. */
    private static ThinPool underWay() {
        ThinPool x = new ThinPool();
        x.make(0);
        writePieces(x, 0, 40);
        x.keep(0, 0);
        writePieces(x, 30, 90);
        DUE.isTrue("more than 32 blocks are under way", blocksUnderWay(Inside.words(x, "memory")).size() > 32);
        return x;
    }

    private static void writePieces(ThinPool x, int from, int to) {
        for (int p = from; p < to; p++) {
            x.write(0, p, 0, 128, 1 + p);
        }
    }

    private static void stopInBlocks(ThinPool x, long bits) {
        long[] medium = Inside.words(x, "medium");
        long[] memory = Inside.words(x, "memory").clone();
        long[] before = medium.clone();
        List<Integer> blocks = blocksUnderWay(memory);
        x.keep(1, bits);
        int place = 0;
        for (int block : blocks) {
            int part = place < 32 ? (int) (bits >>> 2 * place) & 3 : 0;
            dueParts(bits + ", place " + place, medium, part == 1 || part == 2 ? memory : before, block, 0);
            dueParts(bits + ", place " + place, medium, part == 1 || part == 3 ? memory : before, block, 8);
            place++;
        }
        for (int block = 0; block < medium.length / WORDS; block++) {
            if (!blocks.contains(block)) {
                dueParts(bits + ", not under way", medium, before, block, 0);
                dueParts(bits + ", not under way", medium, before, block, 8);
            }
        }
    }

    /** In order: the blocks with a count now and none as kept, then the tables 2 to 8. */
    private static List<Integer> blocksUnderWay(long[] memory) {
        List<Integer> blocks = new ArrayList<>();
        for (int block = POOL_START; block < memory.length / WORDS; block++) {
            if (ways(memory, 2, block) > 0 && ways(memory, 9, block) == 0) {
                blocks.add(block);
            }
        }
        for (int block = 2; block < 9; block++) {
            blocks.add(block);
        }
        return blocks;
    }

    private static int ways(long[] words, int tables, int block) {
        int i = block - POOL_START;
        return (int) (words[(tables + 1) * WORDS + i / 8] >>> 8 * (i % 8)) & 255;
    }

    private static void stopInHead(long bits) {
        ThinPool x = underWay();
        long[] medium = Inside.words(x, "medium");
        long[] memory = Inside.words(x, "memory").clone();
        long[] before = medium.clone();
        x.keep(2, bits);
        boolean counts = (bits & 3) == 1 || (bits & 3) == 2;
        DUE.same(bits + ": the other head's number", medium[0], counts ? 3 : 1);
        dueParts(bits + ": the head that was kept", medium, before, 1, 0);
        for (int block : blocksUnderWay(memory)) {
            dueParts(bits + ": stage 1 is all down", medium, memory, block, 0);
            dueParts(bits + ": stage 1 is all down", medium, memory, block, 8);
        }
    }

    /** By each way to lose power all that was in memory is gone. */
    private static void loseMemory() {
        ThinPool failed = underWay();
        failed.fail();
        ThinPool stopped = underWay();
        stopped.keep(1, -1);
        ThinPool stoppedLater = underWay();
        stoppedLater.keep(2, 1);
        for (ThinPool x : new ThinPool[] {failed, stopped, stoppedLater}) {
            for (long word : Inside.words(x, "memory")) {
                DUE.same("a word in memory without power", word, 0);
            }
        }
    }

    private static void dueParts(String what, long[] medium, long[] due, int block, int from) {
        for (int i = from; i < from + 8; i++) {
            DUE.same(what + ", block " + block + ", word " + i, medium[block * WORDS + i], due[block * WORDS + i]);
        }
    }
}
