import java.util.Random;

/** Long runs of calls, the same in each go, on the class and on the model side by side. */
public final class ModelTest {
    private static final int RUNS = 1500;
    private static final int CALLS = 512;
    // Beyond what is promised: only so many calls make blocks be taken again and again.
    private static final int MANY_CALLS = 6000;
    private static final int[] ODD = {-1, Integer.MIN_VALUE, Integer.MAX_VALUE, -2, 1 << 16, 1 << 30};

    private final Due due = new Due();
    private final Random random;
    private final ThinPool pool = new ThinPool();
    private final Model model = new Model();
    private final int volumes;
    private final int pieces;
    private final int oddIn;
    private final int fullness;

    private ModelTest(int seed) {
        random = new Random(seed);
        volumes = 2 + random.nextInt(15);
        pieces = seed % 3 == 0 ? 6 : 128;
        oddIn = 8 + random.nextInt(40);
        fullness = random.nextInt(3);
    }

    public static void main(String[] args) {
        int wrong = 0;
        for (int seed = 0; seed < RUNS && wrong == 0; seed++) {
            ModelTest run = new ModelTest(seed);
            run.go(seed);
            wrong = run.due.wrongAnswers();
        }
        System.out.println(wrong == 0 ? RUNS + " runs are as the model's" : "a run is not as the model's");
        System.exit(wrong == 0 ? 0 : 1);
    }

    private void go(int seed) {
        if (seed % 5 == 1) {
            fillAlmost();
        }
        int calls = seed % 10 == 0 ? MANY_CALLS : CALLS;
        for (int i = 0; i < calls && due.wrongAnswers() == 0; i++) {
            callOnce("run " + seed + ", call " + i + ": ");
        }
        compareAll("run " + seed + ", at its end: ");
        due.same("fail", pool.fail(), model.fail());
        due.same("mount", pool.mount(), model.mount());
        compareAll("run " + seed + ", behind a loss of power: ");
    }

    /** 291 pieces, so that the run goes on near the limit of 300. */
    private void fillAlmost() {
        due.same("make(0)", pool.make(0), model.make(0));
        for (int p = 0; p < 97; p++) {
            due.same("write(0, " + p + ", ..)", pool.write(0, p, p, 3, p), model.write(0, p, p, 3, p));
        }
        due.same("snap(1, 0)", pool.snap(1, 0), model.snap(1, 0));
        due.same("snap(2, 0)", pool.snap(2, 0), model.snap(2, 0));
    }

    /** A number below the end, or now and then one at it or far away. */
    private int number(int end) {
        if (random.nextInt(oddIn) > 0) {
            return random.nextInt(end);
        }
        int odd = random.nextInt(ODD.length + 2);
        return odd < ODD.length ? ODD[odd] : odd == ODD.length ? end : end - 1;
    }

    private int volume() {
        return random.nextInt(oddIn) > 0 ? random.nextInt(volumes) : number(16);
    }

    private int piece() {
        return random.nextInt(oddIn) > 0 ? random.nextInt(pieces) : number(128);
    }

    private void callOnce(String run) {
        int kind = random.nextInt(100);
        if (kind < 55) {
            changeOnce(run, kind);
        } else if (kind < 85) {
            askOnce(run, kind);
        } else {
            powerOnce(run, kind);
        }
    }

    private void changeOnce(String run, int kind) {
        int v = volume(), w = volume(), p = piece(), q = piece(), at = number(128);
        int n = random.nextInt(oddIn) > 0 && at >= 0 && at < 128 ? 1 + random.nextInt(128 - at) : number(129);
        int value = number(256);
        if (kind < 6) {
            due.same(run + "make(" + v + ")", pool.make(v), model.make(v));
        } else if (kind < 14 + 4 * fullness) {
            due.same(run + "snap(" + v + ", " + w + ")", pool.snap(v, w), model.snap(v, w));
        } else if (kind < 18 + 4 * fullness && random.nextInt(1 + fullness) == 0) {
            due.same(run + "remove(" + v + ")", pool.remove(v), model.remove(v));
        } else if (kind < 22 + 4 * fullness && random.nextInt(1 + fullness) == 0) {
            due.same(run + "trim(" + v + ", " + p + ", " + q + ")", pool.trim(v, p, q), model.trim(v, p, q));
        } else {
            due.same(run + "write(" + v + ", " + p + ", " + at + ", " + n + ", " + value + ")",
                pool.write(v, p, at, n, value), model.write(v, p, at, n, value));
        }
    }

    private void askOnce(String run, int kind) {
        int v = volume(), p = piece(), at = number(128), i = number(32), value = number(256);
        switch (kind % 10) {
            case 0, 1 -> due.same(run + "read(" + v + ", " + p + ", " + at + ")", pool.read(v, p, at), model.read(v, p, at));
            case 2 -> due.same(run + "pieces(" + v + ")", pool.pieces(v), model.pieces(v));
            case 3 -> due.same(run + "next(" + v + ", " + p + ")", pool.next(v, p), model.next(v, p));
            case 4, 5 -> due.same(run + "shared(" + v + ", " + p + ")", pool.shared(v, p), model.shared(v, p));
            case 6 -> due.same(run + "tell(" + i + ", " + value + ")", pool.tell(i, value), model.tell(i, value));
            case 7 -> due.same(run + "told(" + i + ")", pool.told(i), model.told(i));
            case 8 -> due.same(run + "count(" + (i % 4) + ")", pool.count(i % 4), model.count(i % 4));
            default -> due.same(run + "pieces(-1)", pool.pieces(-1), model.pieces(-1));
        }
        due.same(run + "check()", pool.check(), model.check());
    }

    private void powerOnce(String run, int kind) {
        int stop = kind < 91 ? 0 : kind < 94 ? 1 + random.nextInt(2) : number(3);
        long bits = random.nextInt(3) == 0 ? random.nextInt(4) : random.nextLong();
        if (kind < 96) {
            due.same(run + "keep(" + stop + ", " + bits + ")", pool.keep(stop, bits), model.keep(stop, bits));
        } else if (kind < 97) {
            due.same(run + "fail()", pool.fail(), model.fail());
        } else if (kind < 98 && random.nextInt(20) == 0) {
            due.same(run + "lay()", pool.lay(), model.lay());
        }
        if (random.nextInt(8) > 0) {
            due.same(run + "mount()", pool.mount(), model.mount());
        }
        due.same(run + "check()", pool.check(), model.check());
    }

    private void compareAll(String run) {
        pool.mount();
        model.mount();
        for (int i = 0; i < 32; i++) {
            due.same(run + "told(" + i + ")", pool.told(i), model.told(i));
        }
        due.same(run + "count(0)", pool.count(0), model.count(0));
        due.same(run + "count(1)", pool.count(1), model.count(1));
        for (int v = 0; v < 16; v++) {
            due.same(run + "pieces(" + v + ")", pool.pieces(v), model.pieces(v));
            for (int p = 0; p < 128; p++) {
                comparePiece(run, v, p);
            }
        }
    }

    private void comparePiece(String run, int v, int p) {
        due.same(run + "next(" + v + ", " + p + ")", pool.next(v, p), model.next(v, p));
        due.same(run + "shared(" + v + ", " + p + ")", pool.shared(v, p), model.shared(v, p));
        int bytes = model.next(v, p) == p ? 128 : 1;
        for (int at = 0; at < bytes; at++) {
            due.same(run + "read(" + v + ", " + p + ", " + at + ")", pool.read(v, p, at), model.read(v, p, at));
        }
    }
}
