import java.util.Map;
import java.util.Objects;
import java.util.TreeSet;
import java.util.function.ToIntFunction;

/** Two runs side by side, to show that something happens only as it should: they look alike now and in every later turn. */
final class Twin {
    private static final int LATER_TURNS = 24;
    private static final int MOST_CALLS = 512;
    /** Names a new file in the process's place, and so shows that place, the next node, opening and descriptor. */
    private static final int[] LOOK_AROUND = {Asm.set(0, 12), Asm.open(0, 2)};

    private Twin() {
    }

    static int[] join(int[]... parts) {
        int length = 0;
        for (int[] part : parts) {
            length += part.length;
        }
        int[] all = new int[length];
        int at = 0;
        for (int[] part : parts) {
            System.arraycopy(part, 0, all, at, part.length);
            at += part.length;
        }
        return all;
    }

    private static Map<String, Long> view(Run run, int turns) {
        Run all = turns > 0 ? run.turns(turns) : run;
        Map<String, Long> seen = View.of(all.make());
        if (all.calls() + seen.size() > MOST_CALLS) {
            throw new IllegalStateException("a run of more than 512 calls shows nothing");
        }
        return seen;
    }

    /** The calls that one and other answer differently, now or later. */
    private static TreeSet<String> differences(Run one, Run other) {
        TreeSet<String> found = new TreeSet<>();
        for (int turns = 0; turns <= LATER_TURNS; turns++) {
            Map<String, Long> a = view(one, turns);
            Map<String, Long> b = view(other, turns);
            TreeSet<String> asked = new TreeSet<>(a.keySet());
            asked.addAll(b.keySet());
            for (String call : asked) {
                if (!Objects.equals(a.get(call), b.get(call))) {
                    found.add(call + " after " + turns + " turns: " + a.get(call) + ", due is " + b.get(call));
                }
            }
        }
        return found;
    }

    static void same(String what, Run one, Run due) {
        TreeSet<String> found = differences(one, due);
        String first = found.isEmpty() ? "" : " (such as " + found.first() + ")";
        Check.due(what + ": answers that differ" + first, found.size(), 0);
    }

    /** The call answers BAD, and what comes then is what comes without it. */
    static void refused(String what, Run world, ToIntFunction<UnixPersonality> call) {
        Check.due(what, call.applyAsInt(world.make()), UnixPersonality.BAD);
        same(what + " is refused", world.call(call::applyAsInt), world);
    }

    /** In a process that executes before, then failing, that instruction is no more than r3 = -1. */
    static void fails(String what, Run world, int x0, int[] before, int failing, int... tail) {
        acts(what + " fails", world, x0, before, failing, Asm.set(3, -1), tail);
        differs(what + ": r3 was not -1 before it", world, x0, before, failing, Asm.nothing(), tail);
    }

    /** In a process that executes before, then the word, that one does what the other word does. */
    static void acts(String what, Run world, int x0, int[] before, int word, int like, int... tail) {
        same(what, executing(world, x0, before, word, tail), executing(world, x0, before, like, tail));
        differs(what + ": it is reached", world, x0, before, word, Asm.out(0), tail);
    }

    /** Runs that look alike show nothing if the word in question could be any other one as well. */
    private static void differs(String guard, Run world, int x0, int[] before, int word, int other, int... tail) {
        Run one = executing(world, x0, before, word, tail);
        boolean differ = !differences(one, executing(world, x0, before, other, tail)).isEmpty();
        Check.due(guard, differ, true);
    }

    /** The word goes from the file when the process has it, so that runs with different words look alike. */
    private static Run executing(Run world, int x0, int[] before, int word, int[] tail) {
        // The YIELD ends the turn, so that what the word has done shows before the tail goes on.
        int[] words = join(before, new int[] {word, Asm.yieldTurn()}, tail.length > 0 ? tail : LOOK_AROUND);
        return world.program(x0, words).call(x -> x.file(14, before.length, Asm.nothing()));
    }
}
