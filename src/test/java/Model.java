/**
 * The document in its plainest form, for tests alone: each piece that was written is an array
 * that never changes, so volumes share a piece if they have the very same array.
 */
final class Model {
    private static final class State {
        private final boolean[] there = new boolean[16];
        private final byte[][][] pieces = new byte[16][128][];
        private final int[] notes = new int[32];

        State copy() {
            State copy = new State();
            System.arraycopy(there, 0, copy.there, 0, 16);
            System.arraycopy(notes, 0, copy.notes, 0, 32);
            for (int v = 0; v < 16; v++) {
                copy.pieces[v] = pieces[v].clone();
            }
            return copy;
        }
    }

    private State now;
    private State kept;
    private boolean on;
    private int keeps;

    Model() {
        lay();
    }

    int lay() {
        now = new State();
        kept = new State();
        on = true;
        keeps = 0;
        return 0;
    }

    int make(int volume) {
        if (!on) return ThinPool.OFF;
        if (out(volume, 16) || now.there[volume]) return ThinPool.BAD;
        now.there[volume] = true;
        return 0;
    }

    int snap(int volume, int of) {
        if (!on) return ThinPool.OFF;
        if (out(volume, 16) || now.there[volume] || !there(of)) return ThinPool.BAD;
        if (written(of) + all() > 300) return ThinPool.FULL;
        now.there[volume] = true;
        now.pieces[volume] = now.pieces[of].clone();
        return written(volume);
    }

    int remove(int volume) {
        if (!on) return ThinPool.OFF;
        if (!there(volume)) return ThinPool.BAD;
        int written = written(volume);
        now.there[volume] = false;
        now.pieces[volume] = new byte[128][];
        return written;
    }

    int write(int volume, int piece, int at, int n, int value) {
        if (!on) return ThinPool.OFF;
        if (!there(volume) || out(piece, 128) || out(at, 128)) return ThinPool.BAD;
        if (n < 1 || n > 128 || (long) at + n > 128 || out(value, 256)) return ThinPool.BAD;
        byte[] before = now.pieces[volume][piece];
        if (before == null && all() == 300) return ThinPool.FULL;
        byte[] after = before == null ? new byte[128] : before.clone();
        for (int i = 0; i < n; i++) after[at + i] = (byte) value;
        now.pieces[volume][piece] = after;
        return written(volume);
    }

    int read(int volume, int piece, int at) {
        if (!on) return ThinPool.OFF;
        if (!there(volume) || out(piece, 128) || out(at, 128)) return ThinPool.BAD;
        byte[] bytes = now.pieces[volume][piece];
        return bytes == null ? 0 : bytes[at] & 255;
    }

    int trim(int volume, int from, int to) {
        if (!on) return ThinPool.OFF;
        if (!there(volume) || out(from, 128) || out(to, 128) || to < from) return ThinPool.BAD;
        int before = written(volume);
        for (int piece = from; piece <= to; piece++) now.pieces[volume][piece] = null;
        return before - written(volume);
    }

    int pieces(int volume) {
        if (!on) return ThinPool.OFF;
        if (volume == -1) return all();
        return there(volume) ? written(volume) : ThinPool.BAD;
    }

    int next(int volume, int piece) {
        if (!on) return ThinPool.OFF;
        if (!there(volume) || out(piece, 128)) return ThinPool.BAD;
        int i = piece;
        while (i < 128 && now.pieces[volume][i] == null) i++;
        return i;
    }

    int shared(int volume, int piece) {
        if (!on) return ThinPool.OFF;
        if (!there(volume) || out(piece, 128)) return ThinPool.BAD;
        byte[] bytes = now.pieces[volume][piece];
        for (int v = 0; v < 16; v++) {
            if (v != volume && bytes != null && now.pieces[v][piece] == bytes) return 1;
        }
        return 0;
    }

    int tell(int i, int v) {
        if (!on) return ThinPool.OFF;
        if (out(i, 32) || out(v, 256)) return ThinPool.BAD;
        int before = now.notes[i];
        now.notes[i] = v;
        return before;
    }

    int told(int i) {
        if (!on) return ThinPool.OFF;
        return out(i, 32) ? ThinPool.BAD : now.notes[i];
    }

    int keep(int stop, long bits) {
        if (!on) return ThinPool.OFF;
        if (out(stop, 3)) return ThinPool.BAD;
        long head = bits & 3;
        if (stop == 0 || stop == 2 && (head == 1 || head == 2)) {
            kept = now.copy();
            keeps++;
        }
        on = stop == 0;
        return on ? all() : ThinPool.OFF;
    }

    int fail() {
        if (!on) return ThinPool.OFF;
        on = false;
        return 0;
    }

    int mount() {
        if (on) return ThinPool.BAD;
        on = true;
        now = kept.copy();
        return all();
    }

    int count(int which) {
        if (!on) return ThinPool.OFF;
        int volumes = 0;
        for (boolean there : now.there) volumes += there ? 1 : 0;
        return which == 0 ? volumes : which == 1 ? keeps : ThinPool.BAD;
    }

    int check() {
        return on ? 0 : ThinPool.OFF;
    }

    boolean isOn() {
        return on;
    }

    private static boolean out(int i, int end) {
        return i < 0 || i >= end;
    }

    private boolean there(int volume) {
        return !out(volume, 16) && now.there[volume];
    }

    private int written(int volume) {
        int written = 0;
        for (byte[] bytes : now.pieces[volume]) written += bytes == null ? 0 : 1;
        return written;
    }

    private int all() {
        int all = 0;
        for (int v = 0; v < 16; v++) all += written(v);
        return all;
    }
}
