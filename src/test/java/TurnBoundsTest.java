import java.util.Arrays;

/** What the Terms say about END, the queue and turns, sentence by sentence: both sides of each boundary. */
public final class TurnBoundsTest {
    private static final int FREE = UnixPersonality.FREE;
    private static final int READY = UnixPersonality.READY;
    private static final int WAITING = UnixPersonality.WAITING;
    private static final int ENDED = UnixPersonality.ENDED;

    private static void states(String what, UnixPersonality x, int... due) {
        for (int p = 0; p < due.length; p++) {
            Check.due(what + ": state(" + p + ")", x.state(p), due[p]);
        }
    }

    private static void outputs(String what, UnixPersonality x, int... due) {
        Check.due(what + ": printed()", x.printed(), due.length);
        for (int k = 0; k < due.length; k++) {
            Check.due(what + ": output(" + k + ")", x.output(k), due[k]);
        }
    }

    /** n processes that print r0 once a turn: 50, 51 and so on. */
    private static Run printing(int n) {
        Run run = new Run().file(13, Asm.out(0), Asm.nothing(), Asm.jump(0));
        for (int p = 0; p < n; p++) {
            run = run.spawn(13, 50 + p);
        }
        return run;
    }

    /**
     * A process with an ended child and one that goes on, a pipe, and an opening of a file that has no entry. Then it ends by the
     * last words, which it reaches with r0 = 8 and the pipe in descriptors 1 and 2, as r1 and r2 say.
     */
    private static int[] holding(int[] way) {
        int[] words = {Asm.fork(1), Asm.addNumber(1, 1), Asm.jumpIfZero(1, 15), Asm.fork(1), Asm.addNumber(1, 1), Asm.jumpIfZero(1, 16),
            Asm.set(1, 5), Asm.open(1, 2), Asm.set(2, 5), Asm.remove(2), Asm.pipe(1, 2), Asm.yieldTurn()};
        return Twin.join(words, way, new int[] {Asm.end(0), Asm.jump(16)});
    }

    private static Run killing(Run run, int p) {
        return run.file(11, Asm.kill(0), Asm.end(0)).spawn(11, p).turns(10);
    }

    private static void end() {
        Check.sentence("To END: its descriptors become nothing; its children have no parent then, and those of them that are ended become"
            + " free; itself becomes ended, or free if it has no parent.");
        int go = Asm.nothing();
        int[] killed = {Asm.jump(12), go, go};
        int[][] ways = {{Asm.end(0), go, go}, {Asm.jump(-1), go, go}, {Asm.jump(17), go, go}, {Asm.close(1), Asm.write(0, 2), go}, killed};
        int[] results = {8, -4, -4, -2, -3};
        for (int i = 0; i < ways.length; i++) {
            // Without a parent it is process 0, its children 1 and 2, its program's node 1 and its file's 2.
            Run alone = new Run().file(14, holding(ways[i])).spawn(14, 8).turns(40);
            // With one, process 0, all these numbers are 1 more.
            Run child = new Run().file(12, Asm.fork(1), Asm.addNumber(1, 1), Asm.jumpIfZero(1, 4), Asm.jump(3), Asm.set(2, 14),
                Asm.execute(2)).file(14, holding(ways[i])).spawn(12, 8).turns(60);
            if (ways[i] == killed) {
                states("before", alone.make(), READY, ENDED, READY);
                Check.due("before: its pipe", alone.make().pipe(0), 0);
                Check.due("before: its file", alone.make().kind(2), 1);
                states("before, with a parent", child.make(), READY, READY, ENDED, READY);
                alone = killing(alone, 0);
                child = killing(child, 1);
            }
            String what = "result " + results[i];
            letGo(what, alone, 0);
            Check.due(what + ": itself", alone.make().state(0), FREE);
            letGo(what + ", with a parent", child, 1);
            Check.due(what + ", with a parent: itself", child.make().state(1), ENDED);
            Check.due(what + ", with a parent: its result", child.make().spot(1), results[i]);
        }
    }

    /** What holds when p, which had the ended child p + 1, the child p + 2 and the file of node p + 2, has ended. */
    private static void letGo(String what, Run run, int p) {
        UnixPersonality x = run.make();
        Check.due(what + ": its ended child", x.state(p + 1), FREE);
        Check.due(what + ": its other child", x.state(p + 2), READY);
        Check.due(what + ": its pipe", x.pipe(0), -1);
        Check.due(what + ": its file", x.kind(p + 2), 0);
        Check.due(what + ": the other child has no parent and is free when it is killed", killing(run, p + 2).make().state(p + 2), FREE);
    }

    private static void endWithChildrenOfOthers() {
        Check.sentence("To END: its descriptors become nothing; its children have no parent then, and those of them that are ended become"
            + " free; itself becomes ended, or free if it has no parent.");
        // 0 has the ended child 1; when 2, which has none, ends, they stay as they are.
        Run run = new Run().file(13, Asm.fork(1), Asm.addNumber(1, 1), Asm.jumpIfZero(1, 4), Asm.jump(3), Asm.end(0)).spawn(13, 8)
            .turns(3).file(12, Asm.end(0)).spawn(12, 0);
        states("before", run.make(), READY, ENDED, READY);
        states("another one ended", run.turns(4).make(), READY, ENDED, FREE);
        // What others have of the same pipe and opening stays: 1 is 0's copy, and ends.
        UnixPersonality x = new Run().file(13, Asm.pipe(1, 2), Asm.open(0, 0), Asm.fork(3), Asm.addNumber(3, 1), Asm.jumpIfZero(3, 6),
            Asm.jump(5), Asm.end(0)).spawn(13, 13).turns(6).make();
        states("the copy ended", x, READY, ENDED);
        Check.due("the pipe is there", x.pipe(0), 0);
        Check.due("the opening is there", x.descriptor(0, 2), 1);
    }

    private static void queue() {
        Check.sentence("Ready processes stand in a QUEUE.");
        outputs("in the order they came", printing(5).turns(5).make(), 50, 51, 52, 53, 54);
        outputs("again and again", printing(3).turns(7).make(), 50, 51, 52, 50, 51, 52, 50);
        outputs("one alone", printing(1).turns(3).make(), 50, 50, 50);
        Check.sentence("if it is ready then it joins the queue at its end.");
        // 60 stands behind 50 and 51 again when it is ready; when it waits or has ended it is not in the queue.
        outputs("after a YIELD", printing(2).file(12, Asm.out(0), Asm.yieldTurn(), Asm.jump(0)).spawn(12, 60).turns(7).make(),
            50, 51, 60, 50, 51, 60, 50);
        UnixPersonality x = printing(2).file(12, Asm.out(0), Asm.pipe(1, 2), Asm.read(3, 1)).spawn(12, 60).turns(7).make();
        outputs("it waits", x, 50, 51, 60, 50, 51, 50, 51);
        states("it waits", x, READY, READY, WAITING);
        x = printing(2).file(12, Asm.out(0), Asm.end(0)).spawn(12, 60).turns(7).make();
        outputs("it ended", x, 50, 51, 60, 50, 51, 50, 51);
        states("it ended", x, READY, READY, FREE);
    }

    private static void turnsInstructions() {
        Check.sentence("Then the first one of the queue leaves it and executes instructions, until it waits (that one is not executed"
            + " then), ends, has executed a YIELD, or has executed 3 (what ends it counts as one);");
        int go = Asm.nothing();
        int stop = Asm.yieldTurn();
        int reading = Asm.read(3, 1);
        int pipe = Asm.pipe(1, 2);
        int writing = Asm.write(3, 2);
        // After the first turn: executed, spot, state; then the program.
        int[][] cases = {
            {3, 3, READY, go, go, go, go}, {3, 3, READY, go, go, go}, {1, 1, READY, stop, go, go}, {2, 2, READY, go, stop, go},
            {3, 3, READY, go, go, stop, go}, {3, 3, READY, go, go, go, stop}, {1, 0, FREE, 0, go}, {2, 0, FREE, go, 0},
            {3, 0, FREE, go, go, 0}, {3, 3, READY, go, go, go, 0}, {2, 0, FREE, go}, {3, 0, FREE, go, go}, {2, 0, FREE, Asm.jump(-1)},
            {1, 1, WAITING, pipe, reading}, {2, 2, WAITING, pipe, go, reading}, {3, 3, READY, pipe, go, go, reading},
            {3, 0, FREE, pipe, Asm.close(1), writing}, {2, 2, READY, pipe, stop, reading}, {3, 1, READY, go, Asm.jump(0)},
            {2, 2, WAITING, Asm.fork(0), go, Asm.await(0, 0)}, {3, 3, READY, Asm.fork(0), go, go, Asm.await(0, 0)},
        };
        for (int[] c : cases) {
            int[] words = Arrays.copyOfRange(c, 3, c.length);
            UnixPersonality x = new Run().file(0, words).spawn(0, 0).make();
            String what = "program " + Arrays.toString(words);
            Check.due(what + ": run(1)", x.run(1), 1);
            Check.due(what + ": executed()", x.executed(), c[0]);
            Check.due(what + ": state(0)", x.state(0), c[2]);
            Check.due(what + ": spot(0)", x.spot(0), c[2] == FREE ? UnixPersonality.BAD : c[1]);
        }
        // What comes first in the next turn: it waits or ends with 0 or 1 executed.
        UnixPersonality x = new Run().file(0, pipe, go, go, reading).spawn(0, 0).turns(1).make();
        Check.due("it waits at once: run(1)", x.run(1), 1);
        Check.due("it waits at once: executed()", x.executed(), 3);
        states("it waits at once", x, WAITING);
        Check.due("then there is no turn", x.run(1), 0);
        x = new Run().file(0, go, go, go).spawn(0, 0).turns(1).make();
        Check.due("it ends at once: run(1)", x.run(1), 1);
        Check.due("it ends at once: executed()", x.executed(), 4);
        states("it ends at once", x, FREE);
        // A pipe that is full, and one that is not.
        x = new Run().file(0, pipe, writing, Asm.jump(1)).spawn(0, 0).turns(3).make();
        Check.due("4 words", x.pipe(0), 4);
        Check.due("then it is before the fifth", x.spot(0), 1);
        states("then it is before the fifth", x, READY);
        x.run(1);
        states("it waits", x, WAITING);
        Check.due("the fifth is not executed", x.executed(), 9);
    }

    private static void noTurn() {
        Check.sentence("If nobody is in the queue there is no turn.");
        Check.due("a new object", new UnixPersonality().run(1), 0);
        Run waiting = new Run().file(13, Asm.pipe(0, 1), Asm.read(2, 0)).spawn(13, 0).spawn(13, 0).turns(2);
        states("two that wait", waiting.make(), WAITING, WAITING);
        Check.due("two that wait", waiting.make().run(80), 0);
        Twin.same("nothing happens", waiting.turns(3), waiting);
        Check.due("one comes", waiting.file(12, Asm.nothing()).spawn(12, 0).make().run(80), 1);
        // A child that has ended is not in the queue, but wakes its parent: there is a turn.
        Run ended = new Run().file(13, Asm.fork(1), Asm.addNumber(1, 1), Asm.jumpIfZero(1, 4), Asm.await(1, 2), Asm.nothing(),
            Asm.end(0)).spawn(13, 0).turns(4);
        states("the parent waits", ended.make(), WAITING, ENDED);
        Check.due("the parent has a turn", ended.make().run(80), 1);
    }

    /** 1 and 2 come to wait at 0's pipe, 2 before 1; then, in one turn, 0 writes by the two words. */
    private static UnixPersonality readers(int first, int second) {
        UnixPersonality x = new Run().file(13, Asm.pipe(0, 1), Asm.fork(2), Asm.addNumber(2, 1), Asm.jumpIfZero(2, 14), Asm.fork(2),
            Asm.addNumber(2, 1), Asm.jumpIfZero(2, 16), Asm.set(2, -9), Asm.addNumber(2, 1), Asm.jumpIfNotZero(2, 8), Asm.yieldTurn(),
            first, second, Asm.jump(13), Asm.yieldTurn(), Asm.yieldTurn(), Asm.read(3, 0), Asm.number(2), Asm.out(2), Asm.jump(19))
            .spawn(13, 0).make();
        boolean secondBeforeFirst = false;
        for (int i = 0; i < 40 && x.spot(0) != 13; i++) {
            x.run(1);
            secondBeforeFirst |= x.state(1) == READY && x.state(2) == WAITING;
        }
        Check.due("2 waits before 1 does", secondBeforeFirst, true);
        states("0 has written, nobody is awake yet", x, READY, WAITING, WAITING);
        return x;
    }

    private static void waking() {
        Check.sentence("A TURN: first every waiting process, the smallest first, that would not wait at its instruction now, becomes ready"
            + " and joins the queue at its end.");
        UnixPersonality x = readers(Asm.write(0, 1), Asm.write(0, 1));
        x.run(1);
        states("both are awake, behind 0", x, READY, READY, READY);
        outputs("both are awake, behind 0", x);
        x.run(1);
        outputs("the smallest first", x, 1);
        x.run(1);
        outputs("then the other", x, 1, 2);
        x = readers(Asm.write(0, 1), Asm.nothing());
        x.run(1);
        states("one word wakes both", x, READY, READY, READY);
        x.run(2);
        outputs("1 has it", x, 1);
        states("2 waits again", x, READY, READY, WAITING);
        x = readers(Asm.nothing(), Asm.nothing());
        x.run(10);
        states("no word wakes nobody", x, READY, WAITING, WAITING);
        // 0 closes its writing end; 1 and 2 have theirs.
        x = readers(Asm.close(1), Asm.nothing());
        x.run(10);
        states("their own writing ends are there", x, READY, WAITING, WAITING);
        // Each at its own pipe: 0 waits for ever, 1 is woken by 2, its copy.
        x = new Run().file(12, Asm.pipe(0, 1), Asm.read(2, 0)).spawn(12, 0).file(13, Asm.pipe(0, 1), Asm.fork(2), Asm.addNumber(2, 1),
            Asm.jumpIfZero(2, 6), Asm.read(2, 0), Asm.jump(5), Asm.yieldTurn(), Asm.yieldTurn(), Asm.write(1, 1), Asm.jump(9))
            .spawn(13, 0).turns(20).make();
        states("only the one that would not wait", x, WAITING, READY, READY);
        Check.due("its word", x.register(1, 2), 1);
    }

    private static void wakingWriters() {
        Check.sentence("A TURN: first every waiting process, the smallest first, that would not wait at its instruction now, becomes ready"
            + " and joins the queue at its end.");
        // 1 fills the pipe and waits; 0 reads one word after a while.
        Run run = new Run().file(13, Asm.pipe(0, 1), Asm.fork(2), Asm.addNumber(2, 1), Asm.jumpIfZero(2, 10), Asm.set(2, -12),
            Asm.addNumber(2, 1), Asm.jumpIfNotZero(2, 5), Asm.yieldTurn(), Asm.read(2, 0), Asm.jump(9), Asm.write(1, 1), Asm.jump(10))
            .spawn(13, 0);
        UnixPersonality x = run.make();
        for (int i = 0; i < 40 && x.spot(0) != 9; i++) {
            x.run(1);
        }
        Check.due("a word went", x.pipe(0), 3);
        states("the writer is not awake yet", x, READY, WAITING);
        x.run(1);
        states("it is awake, behind 0", x, READY, READY);
        Check.due("it has not written yet", x.pipe(0), 3);
        x.run(1);
        Check.due("it has written", x.pipe(0), 4);
        states("it waits at the next", x, READY, WAITING);
    }

    private static void killedOnes() {
        Check.sentence("One that is killed leaves the queue;");
        for (int k = 0; k < 4; k++) {
            // In the fifth turn 4 kills k; the others go on in their order, then 4, which prints nothing.
            Run run = printing(4).file(12, Asm.kill(0), Asm.nothing(), Asm.jump(1)).spawn(12, k).turns(5);
            int[] due = new int[10];
            int at = 0;
            for (int i = 0; i < 4; i++) {
                due[at++] = 50 + i;
            }
            for (int round = 0; round < 2; round++) {
                for (int i = 0; i < 4; i++) {
                    if (i != k) {
                        due[at++] = 50 + i;
                    }
                }
            }
            outputs("KILL of " + k, run.turns(7).make(), due);
            Check.due("KILL of " + k + ": run(1) for each that is left", run.make().run(4), 4);
            // The number, taken again, joins at the end and once only.
            due[7] = 99;
            UnixPersonality x = run.spawn(13, 99).turns(5).make();
            outputs("KILL of " + k + " and spawn", x, Arrays.copyOf(due, 8));
        }
        // The only other one is killed: the killer is alone.
        UnixPersonality x = printing(1).file(12, Asm.kill(0), Asm.end(0)).spawn(12, 0).make();
        Check.due("then nobody is left", x.run(80), 2);
    }

    private static void forkedOnes() {
        Check.sentence("a forked one joins it at its end when the fork is executed.");
        // 0 forks 3 in its turn: behind 1 and 2, before 0.
        UnixPersonality x = new Run().file(12, Asm.fork(1), Asm.nothing(), Asm.nothing(), Asm.out(1), Asm.nothing(), Asm.nothing(),
            Asm.jump(4)).spawn(12, 0).file(13, Asm.out(0), Asm.nothing(), Asm.jump(0)).spawn(13, 50).spawn(13, 51).turns(7).make();
        outputs("behind 1 and 2, before 0", x, 50, 51, -1, 3, 50, 51);
        // Two of them, and the forking one waits: it is not in the queue.
        x = new Run().file(12, Asm.fork(1), Asm.fork(2), Asm.await(3, 3), Asm.jump(3)).file(13, Asm.out(0), Asm.nothing(), Asm.jump(0))
            .spawn(12, 0).spawn(13, 50).turns(1).make();
        states("the forking one waits", x, WAITING, READY, READY, READY, FREE);
        // 0 forks 1 and 2 in one turn, and 1 then forks 3: the queue is 1, 2, 0, then 2, 0, 3, 1.
        x = new Run().file(12, Asm.fork(1), Asm.nothing(), Asm.fork(2), Asm.out(1), Asm.out(2), Asm.jump(5)).spawn(12, 0).turns(2).make();
        outputs("the first of two has its turn first", x, -1);
        states("the first of two has its turn first", x, READY, READY, READY, READY, FREE);
        x.run(2);
        outputs("then the second, then their parent", x, -1, 1, -1, 1, 2);
        x.run(2);
        outputs("then the child's child, then the child", x, -1, 1, -1, 1, 2, -1, -1, 3);
        // Forked and killed in one turn: it never has a turn.
        x = new Run().file(12, Asm.fork(1), Asm.kill(1), Asm.yieldTurn(), Asm.end(0)).spawn(12, 0).make();
        Check.due("forked and killed: only its parent's turns", x.run(80), 2);
        Check.due("forked and killed: only its parent's instructions", x.executed(), 4);
        // In the last instruction of a turn.
        x = new Run().file(12, Asm.nothing(), Asm.nothing(), Asm.fork(1), Asm.out(1), Asm.nothing(), Asm.jump(4)).spawn(12, 0)
            .file(13, Asm.out(0), Asm.nothing(), Asm.jump(0)).spawn(13, 50).turns(4).make();
        outputs("in the last instruction", x, 50, -1, 2);
        // The forking one ends in the same turn: the copy is left, without a parent.
        x = new Run().file(12, Asm.fork(1), Asm.end(0), Asm.nothing()).spawn(12, 0).turns(1).make();
        states("the forking one ended", x, FREE, READY);
        Check.due("the copy has its turn", x.run(80), 1);
        states("the copy is free, too", x, FREE, FREE);
    }

    public static void main(String[] args) {
        end();
        endWithChildrenOfOthers();
        queue();
        turnsInstructions();
        noTurn();
        waking();
        wakingWriters();
        killedOnes();
        forkedOnes();
        Check.finish();
    }
}
