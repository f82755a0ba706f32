import java.util.ArrayList;
import java.util.List;

/**
 * A run of calls on a new object. Each answer is held against the model's, and where the test
 * tells it against the one that is due; a run has at most the 512 calls that are promised.
 */
final class Run {
    static final int CALLS = 512;

    private final String name;
    private final Due due;
    private final ThinPool pool = new ThinPool();
    private final Model model = new Model();
    private final List<Run> others = new ArrayList<>();
    private int calls;

    Run(String name, Due due) {
        this.name = name;
        this.due = due;
    }

    /** What a call answered. */
    record Answer(Run run, String call, int got) {
        void is(int wanted) {
            run.due.same(run.name + ": " + call, got, wanted);
        }
    }

    /** One more object for the same case, that is closed with this one. */
    Run another(String more) {
        Run other = new Run(name + ", " + more, due);
        others.add(other);
        return other;
    }

    int callsLeft() {
        return CALLS - calls;
    }

    private Answer answer(String call, int got, int model) {
        calls++;
        due.same(name + ", call " + calls + " beside the model: " + call, got, model);
        if (calls > CALLS) {
            throw new IllegalStateException("a test's run has over " + CALLS + " calls");
        }
        return new Answer(this, call, got);
    }

    Answer lay() {
        return answer("lay()", pool.lay(), model.lay());
    }

    Answer make(int volume) {
        return answer("make(" + volume + ")", pool.make(volume), model.make(volume));
    }

    Answer snap(int volume, int of) {
        return answer("snap(" + volume + ", " + of + ")", pool.snap(volume, of), model.snap(volume, of));
    }

    Answer remove(int volume) {
        return answer("remove(" + volume + ")", pool.remove(volume), model.remove(volume));
    }

    Answer write(int volume, int piece, int at, int n, int value) {
        return answer("write(" + volume + ", " + piece + ", " + at + ", " + n + ", " + value + ")",
            pool.write(volume, piece, at, n, value), model.write(volume, piece, at, n, value));
    }

    Answer read(int volume, int piece, int at) {
        return answer("read(" + volume + ", " + piece + ", " + at + ")",
            pool.read(volume, piece, at), model.read(volume, piece, at));
    }

    Answer trim(int volume, int from, int to) {
        return answer("trim(" + volume + ", " + from + ", " + to + ")",
            pool.trim(volume, from, to), model.trim(volume, from, to));
    }

    Answer pieces(int volume) {
        return answer("pieces(" + volume + ")", pool.pieces(volume), model.pieces(volume));
    }

    Answer next(int volume, int piece) {
        return answer("next(" + volume + ", " + piece + ")", pool.next(volume, piece), model.next(volume, piece));
    }

    Answer shared(int volume, int piece) {
        return answer("shared(" + volume + ", " + piece + ")",
            pool.shared(volume, piece), model.shared(volume, piece));
    }

    Answer tell(int i, int v) {
        return answer("tell(" + i + ", " + v + ")", pool.tell(i, v), model.tell(i, v));
    }

    Answer told(int i) {
        return answer("told(" + i + ")", pool.told(i), model.told(i));
    }

    Answer keep(int stop, long bits) {
        return answer("keep(" + stop + ", " + bits + ")", pool.keep(stop, bits), model.keep(stop, bits));
    }

    Answer fail() {
        return answer("fail()", pool.fail(), model.fail());
    }

    Answer mount() {
        return answer("mount()", pool.mount(), model.mount());
    }

    Answer count(int which) {
        return answer("count(" + which + ")", pool.count(which), model.count(which));
    }

    Answer check() {
        return answer("check()", pool.check(), model.check());
    }

    /** Volumes from the given one on, as many as told, all empty. */
    Run withVolumes(int first, int number) {
        for (int v = first; v < first + number; v++) {
            make(v).is(0);
        }
        return this;
    }

    /** A volume with the given pieces, each of them full of its number plus 1. */
    Run withPieces(int volume, int... pieces) {
        make(volume).is(0);
        for (int p : pieces) {
            write(volume, p, 0, 128, p + 1);
        }
        return this;
    }

    /** A volume with the pieces from 0 on, as many as told, each full of its number plus 1. */
    Run withFirstPieces(int volume, int number) {
        make(volume).is(0);
        for (int p = 0; p < number; p++) {
            write(volume, p, 0, 128, p + 1);
        }
        pieces(volume).is(number);
        return this;
    }

    /** Volumes 0, 1 and 2 with the pieces 0 to 99 each: 300 in 104 calls. */
    Run full() {
        withFirstPieces(0, 100);
        snap(1, 0).is(100);
        snap(2, 0).is(100);
        return this;
    }

    /** Power fails with nothing under way, and what was kept is now. */
    Run again(int pieces) {
        fail().is(0);
        mount().is(pieces);
        return this;
    }

    /** Holds what can be seen now against the model, in at most so many calls. */
    void look(int most) {
        int end = Math.min(CALLS, calls + most);
        for (Runnable probe : probes()) {
            if (calls < end) {
                probe.run();
            }
        }
    }

    /** By what is left of the calls: all that can be seen now, then all that is kept. */
    void close() {
        if (calls < CALLS && !model.isOn()) {
            mount();
        }
        look((CALLS - calls) / 2);
        if (calls < CALLS - 1) {
            fail();
            mount();
        }
        look(CALLS - calls);
        for (Run other : others) {
            other.close();
        }
    }

    private List<Runnable> probes() {
        List<Runnable> probes = new ArrayList<>(List.of(this::check, () -> count(0), () -> count(1)));
        for (int i = -1; i < 16; i++) {
            int volume = i;
            probes.add(() -> pieces(volume));
        }
        for (int i = 0; i < 32; i++) {
            int note = i;
            probes.add(() -> told(note));
        }
        for (int volume = 0; volume < 16; volume++) {
            addPieceProbes(volume, probes);
        }
        return probes;
    }

    private void addPieceProbes(int volume, List<Runnable> probes) {
        for (int p = model.next(volume, 0); p >= 0 && p < 128; p = p == 127 ? 128 : model.next(volume, p + 1)) {
            int piece = p;
            probes.add(() -> next(volume, piece));
            probes.add(() -> shared(volume, piece));
            for (int at : new int[] {0, 1, 63, 64, 127}) {
                probes.add(() -> read(volume, piece, at));
            }
        }
    }
}
