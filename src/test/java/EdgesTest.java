import java.util.function.Consumer;
import java.util.function.ToIntFunction;

/**
 * Every call with every choice of numbers at and beside the edges, in states that are empty, in
 * use, full and without power. What is refused must leave all that can be seen as it was.
 */
public final class EdgesTest {
    private static final int MIN = Integer.MIN_VALUE, MAX = Integer.MAX_VALUE;
    private static final int[] VOLUME = {MIN, -2, -1, 0, 1, 2, 14, 15, 16, 17, MAX};
    private static final int[] PIECE = {MIN, -1, 0, 1, 31, 32, 99, 100, 126, 127, 128, MAX};
    private static final int[] BYTE = {MIN, -1, 0, 1, 63, 64, 126, 127, 128, MAX};
    private static final int[] FEW_VOLUMES = {MIN, -1, 0, 15, 16, MAX};
    private static final int[] FEW_PIECES = {MIN, -1, 0, 100, 127, 128, MAX};
    private static final int[] NUMBER = {MIN, -1, 0, 1, 2, 64, 127, 128, 129, MAX};
    private static final int[] VALUE = {MIN, -1, 0, 1, 254, 255, 256, MAX};
    private static final int[] NOTE = {MIN, -1, 0, 1, 30, 31, 32, MAX};
    private static final int[] STOP = {MIN, -1, 0, 1, 2, 3, MAX};
    private static final int[] WHICH = {MIN, -1, 0, 1, 2, MAX};
    private static final long[] BITS = {0, 1, 2, 3, 4, 7, -4, -3, -2, -1, Long.MIN_VALUE, Long.MAX_VALUE};
    // Calls that are left for a look at all that can be seen, now and as it was kept.
    private static final int FOR_LOOKING = 140;

    private final Due due;
    private final String state;
    private final Consumer<Run> builder;
    private Run run;

    private EdgesTest(Due due, String state, Consumer<Run> builder) {
        this.due = due;
        this.state = state;
        this.builder = builder;
    }

    public static void main(String[] args) {
        Due due = new Due();
        new EdgesTest(due, "new", x -> { }).callAll();
        new EdgesTest(due, "in use", EdgesTest::inUse).callAll();
        new EdgesTest(due, "all 16 volumes", x -> x.withVolumes(0, 16)).callAll();
        new EdgesTest(due, "299 pieces", x -> x.full().trim(2, 99, 99)).callAll();
        new EdgesTest(due, "300 pieces", Run::full).callAll();
        new EdgesTest(due, "300 pieces, kept", x -> x.full().keep(0, 0)).callAll();
        new EdgesTest(due, "failed", x -> inUse(x).fail()).callAll();
        new EdgesTest(due, "stopped in stage 1", x -> inUse(x).keep(1, -2)).callAll();
        new EdgesTest(due, "stopped in stage 2", x -> inUse(x).keep(2, 2)).callAll();
        due.end();
    }

    /** Volumes 0 and 15 share pieces, some are kept, and some were changed since. */
    private static Run inUse(Run x) {
        x.withPieces(0, 0, 31, 32, 127);
        x.snap(15, 0).is(4);
        x.tell(0, 255);
        x.tell(31, 1);
        x.keep(0, 0).is(8);
        x.write(15, 31, 1, 127, 9).is(4);
        x.trim(0, 32, 32).is(1);
        x.make(2).is(0);
        return x;
    }

    /** A refused call leaves the run for the next one; any other makes a new run due. */
    private void call(ToIntFunction<Run> call) {
        if (run != null && run.callsLeft() <= FOR_LOOKING) {
            end();
        }
        if (run == null) {
            run = new Run(state, due);
            builder.accept(run);
        }
        if (call.applyAsInt(run) >= 0) {
            end();
        }
    }

    private void end() {
        if (run != null) {
            run.close();
            run = null;
        }
    }

    private void callAll() {
        changeVolumes();
        writeBytes();
        askForPieces();
        tellNotes();
        losePower();
        end();
    }

    private void changeVolumes() {
        for (int v : VOLUME) {
            call(x -> x.make(v).got());
            call(x -> x.remove(v).got());
            call(x -> x.pieces(v).got());
            for (int of : VOLUME) {
                call(x -> x.snap(v, of).got());
            }
            for (int from : PIECE) {
                for (int to : PIECE) {
                    call(x -> x.trim(v, from, to).got());
                }
            }
        }
    }

    private void writeBytes() {
        for (int v : FEW_VOLUMES) {
            for (int p : FEW_PIECES) {
                for (int at : BYTE) {
                    for (int n : NUMBER) {
                        writeValues(v, p, at, n);
                    }
                }
            }
        }
    }

    /** The values that are no edges are left out where something else is wrong already. */
    private void writeValues(int v, int p, int at, int n) {
        boolean bytes = at >= 0 && at < 128 && n > 0 && n <= 128;
        for (int value : bytes ? VALUE : new int[] {-1, 0, 255, 256}) {
            call(x -> x.write(v, p, at, n, value).got());
        }
    }

    private void askForPieces() {
        for (int v : VOLUME) {
            for (int p : PIECE) {
                call(x -> x.next(v, p).got());
                call(x -> x.shared(v, p).got());
                for (int at : BYTE) {
                    call(x -> x.read(v, p, at).got());
                }
            }
        }
    }

    private void tellNotes() {
        for (int i : NOTE) {
            call(x -> x.told(i).got());
            for (int v : VALUE) {
                call(x -> x.tell(i, v).got());
            }
        }
        for (int which : WHICH) {
            call(x -> x.count(which).got());
        }
    }

    private void losePower() {
        for (int stop : STOP) {
            for (long bits : BITS) {
                call(x -> x.keep(stop, bits).got());
                end();
            }
        }
        call(x -> x.fail().got());
        end();
        call(x -> x.mount().got());
        end();
        call(x -> x.lay().got());
        end();
        call(x -> x.check().got());
    }
}
