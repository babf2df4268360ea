import java.util.ArrayList;
import java.util.List;
import java.util.function.Consumer;

/** Calls to be made on a new object, as often as one is needed: a single object answers for no more than 512 calls. */
final class Run {
    private final List<Consumer<UnixPersonality>> steps;
    private final int calls;

    Run() {
        this(new ArrayList<>(), 0);
    }

    private Run(List<Consumer<UnixPersonality>> steps, int calls) {
        this.steps = steps;
        this.calls = calls;
    }

    private Run with(int more, Consumer<UnixPersonality> step) {
        List<Consumer<UnixPersonality>> all = new ArrayList<>(steps);
        all.add(step);
        return new Run(all, calls + more);
    }

    Run file(int name, int... words) {
        return with(words.length, x -> Asm.load(x, name, words));
    }

    Run spawn(int name, int x0) {
        return with(1, x -> x.spawn(name, x0));
    }

    Run turns(int n) {
        return with(1, x -> x.run(n));
    }

    Run call(Consumer<UnixPersonality> call) {
        return with(1, call);
    }

    /** The words are the program, kept in the root as 14, of a process that stays behind them. */
    Run program(int x0, int... words) {
        return file(14, Asm.staying(words)).spawn(14, x0);
    }

    int calls() {
        return calls;
    }

    UnixPersonality make() {
        UnixPersonality x = new UnixPersonality();
        for (Consumer<UnixPersonality> step : steps) {
            step.accept(x);
        }
        return x;
    }
}
