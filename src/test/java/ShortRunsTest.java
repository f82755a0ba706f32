import java.util.ArrayList;
import java.util.List;
import java.util.function.ToIntFunction;

/**
 * Every run of four calls out of a set that is small, but has all kinds that change something:
 * what random runs may miss by chance is not missed here. Each begins with a volume that has one
 * piece, and ends with a look at what can be seen, now and behind a loss of power.
 */
public final class ShortRunsTest {
    private static final int CALLS = 4;
    private static final long SOME_BITS = 0x9E3779B97F4A7C15L;

    private record Call(String name, ToIntFunction<ThinPool> pool, ToIntFunction<Model> model) {
    }

    private static final List<Call> BEGINNING = List.of(
        new Call("make(0)", x -> x.make(0), m -> m.make(0)),
        new Call("write(0, 5, 0, 128, 7)", x -> x.write(0, 5, 0, 128, 7), m -> m.write(0, 5, 0, 128, 7)));
    private static final List<Call> CHANGES = List.of(
        new Call("make(0)", x -> x.make(0), m -> m.make(0)),
        new Call("make(1)", x -> x.make(1), m -> m.make(1)),
        new Call("snap(1, 0)", x -> x.snap(1, 0), m -> m.snap(1, 0)),
        new Call("snap(0, 1)", x -> x.snap(0, 1), m -> m.snap(0, 1)),
        new Call("snap(2, 1)", x -> x.snap(2, 1), m -> m.snap(2, 1)),
        new Call("remove(0)", x -> x.remove(0), m -> m.remove(0)),
        new Call("remove(1)", x -> x.remove(1), m -> m.remove(1)),
        new Call("write(0, 5, 0, 128, 1)", x -> x.write(0, 5, 0, 128, 1), m -> m.write(0, 5, 0, 128, 1)),
        new Call("write(1, 5, 64, 64, 2)", x -> x.write(1, 5, 64, 64, 2), m -> m.write(1, 5, 64, 64, 2)),
        new Call("write(1, 6, 127, 1, 3)", x -> x.write(1, 6, 127, 1, 3), m -> m.write(1, 6, 127, 1, 3)),
        new Call("write(0, 40, 0, 1, 4)", x -> x.write(0, 40, 0, 1, 4), m -> m.write(0, 40, 0, 1, 4)),
        new Call("trim(0, 0, 127)", x -> x.trim(0, 0, 127), m -> m.trim(0, 0, 127)),
        new Call("trim(1, 5, 5)", x -> x.trim(1, 5, 5), m -> m.trim(1, 5, 5)),
        new Call("tell(31, 9)", x -> x.tell(31, 9), m -> m.tell(31, 9)),
        new Call("keep(0, 0)", x -> x.keep(0, 0), m -> m.keep(0, 0)),
        new Call("keep(1, ..)", x -> x.keep(1, SOME_BITS), m -> m.keep(1, SOME_BITS)),
        new Call("keep(2, 2)", x -> x.keep(2, 2), m -> m.keep(2, 2)),
        new Call("keep(2, 3)", x -> x.keep(2, 3), m -> m.keep(2, 3)),
        new Call("fail()", ThinPool::fail, Model::fail),
        new Call("mount()", ThinPool::mount, Model::mount),
        new Call("lay()", ThinPool::lay, Model::lay));
    private static final List<Call> QUESTIONS = questions();
    private static final Due DUE = new Due();

    public static void main(String[] args) {
        long runs = 1;
        for (int i = 0; i < CALLS; i++) {
            runs *= CHANGES.size();
        }
        for (long run = 0; run < runs && DUE.wrongAnswers() == 0; run++) {
            go(callsOf(run));
        }
        DUE.end();
    }

    /** The run's number, written to the base of how many calls there are to choose from. */
    private static List<Call> callsOf(long run) {
        List<Call> calls = new ArrayList<>();
        for (long rest = run; calls.size() < CALLS; rest /= CHANGES.size()) {
            calls.add(CHANGES.get((int) (rest % CHANGES.size())));
        }
        return calls;
    }

    private static void go(List<Call> calls) {
        ThinPool x = new ThinPool();
        Model m = new Model();
        for (Call call : BEGINNING) {
            ask(calls, "at its beginning", call, x, m);
        }
        for (Call call : calls) {
            ask(calls, "in it", call, x, m);
        }
        askAll(calls, "at its end", x, m);
        x.fail();
        m.fail();
        askAll(calls, "behind a loss of power", x, m);
    }

    private static void askAll(List<Call> run, String where, ThinPool x, Model m) {
        for (Call question : QUESTIONS) {
            ask(run, where, question, x, m);
        }
    }

    /** The text is made only where it is needed, since there are millions of answers. */
    private static void ask(List<Call> run, String where, Call call, ThinPool x, Model m) {
        int got = call.pool.applyAsInt(x);
        int due = call.model.applyAsInt(m);
        boolean same = got == due;
        DUE.same(same ? "" : run.stream().map(Call::name).toList() + ", " + where + ": " + call.name, got, due);
    }

    private static List<Call> questions() {
        List<Call> all = new ArrayList<>(List.of(
            new Call("mount()", ThinPool::mount, Model::mount),
            new Call("check()", ThinPool::check, Model::check),
            new Call("count(0)", x -> x.count(0), m -> m.count(0)),
            new Call("count(1)", x -> x.count(1), m -> m.count(1)),
            new Call("told(31)", x -> x.told(31), m -> m.told(31)),
            new Call("pieces(-1)", x -> x.pieces(-1), m -> m.pieces(-1))));
        for (int i = 0; i < 3; i++) {
            int v = i;
            all.add(new Call("pieces(" + v + ")", x -> x.pieces(v), m -> m.pieces(v)));
            for (int p : new int[] {5, 6, 40}) {
                all.add(new Call("next(" + v + ", " + p + ")", x -> x.next(v, p), m -> m.next(v, p)));
                all.add(new Call("shared(" + v + ", " + p + ")", x -> x.shared(v, p), m -> m.shared(v, p)));
                for (int at : new int[] {0, 64, 127}) {
                    all.add(new Call("read(" + v + ", " + p + ", " + at + ")",
                        x -> x.read(v, p, at), m -> m.read(v, p, at)));
                }
            }
        }
        return all;
    }
}
