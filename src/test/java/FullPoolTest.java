/**
 * The most blocks that can be in use: 300 pieces in 16 volumes with every leaf there, kept,
 * and then all of them written again. The 512 calls that are promised can't get so far; this
 * goes beyond them, to show that the pool's size is enough whatever they do.
 */
public final class FullPoolTest {
    private static final Due DUE = new Due();

    public static void main(String[] args) {
        ThinPool x = new ThinPool();
        for (int v = 0; v < 16; v++) {
            x.make(v);
        }
        writeAll(x, 1);
        DUE.same("keep(0, 0)", x.keep(0, 0), 300);
        for (int round = 2; round < 6; round++) {
            writeAll(x, round);
            DUE.same("check()", x.check(), 0);
            readAll(x, round);
        }
        DUE.same("keep(1, -1)", x.keep(1, -1), ThinPool.OFF);
        DUE.same("mount()", x.mount(), 300);
        readAll(x, 1);
        writeAll(x, 6);
        DUE.same("keep(2, 2)", x.keep(2, 2), ThinPool.OFF);
        DUE.same("mount()", x.mount(), 300);
        readAll(x, 6);
        DUE.same("check() at the end", x.check(), 0);
        DUE.end();
    }

    private static int volumeOf(int i) {
        return i % 16;
    }

    private static int pieceOf(int i) {
        return i / 16 % 4 * 32 + i / 64;
    }

    private static void writeAll(ThinPool x, int round) {
        for (int i = 0; i < 300; i++) {
            x.write(volumeOf(i), pieceOf(i), 0, 128, (i + 7 * round) % 256);
        }
        DUE.same("pieces(-1)", x.pieces(-1), 300);
    }

    private static void readAll(ThinPool x, int round) {
        for (int i = 0; i < 300; i++) {
            DUE.same("read of " + i, x.read(volumeOf(i), pieceOf(i), i % 128), (i + 7 * round) % 256);
        }
    }
}
