import java.util.Arrays;

/** What the Terms and promise 18 say about processes and their instructions, sentence by sentence: both sides of each boundary. */
public final class ProcessBoundsTest {
    private static final int FREE = UnixPersonality.FREE;
    private static final int READY = UnixPersonality.READY;
    private static final int WAITING = UnixPersonality.WAITING;
    private static final int ENDED = UnixPersonality.ENDED;
    private static final int LOW = Integer.MIN_VALUE;
    private static final int HIGH = Integer.MAX_VALUE;
    private static final int LOWEST_N = -4194304;
    private static final int HIGHEST_N = 4194303;
    private static final int[] AT_ONCE = {};

    private static UnixPersonality after(Run world, int x0, int... words) {
        return world.program(x0, words).turns((words.length + 2) / 3).make();
    }

    private static void registers(String what, UnixPersonality x, int p, int... due) {
        for (int r = 0; r < 4; r++) {
            Check.due(what + ": register(" + p + ", " + r + ")", x.register(p, r), due[r]);
        }
    }

    private static void states(String what, UnixPersonality x, int... due) {
        for (int p = 0; p < due.length; p++) {
            Check.due(what + ": state(" + p + ")", x.state(p), due[p]);
        }
    }

    /** n processes that go round and round. */
    private static Run others(int n) {
        Run run = new Run().file(13, Asm.jump(0));
        for (int p = 0; p < n; p++) {
            run = run.spawn(13, 0);
        }
        return run;
    }

    /** Process 0 stays, and its child 1, with r0 = x0 and r1 = 0, executes the words. */
    private static Run child(int x0, int... words) {
        int[] parent = {Asm.fork(1), Asm.addNumber(1, 1), Asm.jumpIfZero(1, 4), Asm.jump(3)};
        return new Run().file(13, Twin.join(parent, words)).spawn(13, x0);
    }

    private static void five() {
        Check.sentence("There are 5 PROCESSES, 0 to 4, each FREE, READY, WAITING or ENDED.");
        Check.due("spawn of the fifth", others(4).make().spawn(13, 0), 4);
        Twin.refused("spawn of a sixth", others(5), x -> x.spawn(13, 0));
        UnixPersonality x = others(3).program(0, Asm.fork(0)).turns(4).make();
        Check.due("FORK of the fifth", x.register(3, 0), 4);
        states("FORK of the fifth", x, READY, READY, READY, READY, READY);
        Twin.acts("FORK of a sixth", others(4), 6, AT_ONCE, Asm.fork(0), Asm.set(0, -2));
        Check.sentence("if none is free ra = -2");
        Twin.acts("FORK of a sixth, into r1", others(4), 6, AT_ONCE, Asm.fork(1), Asm.set(1, -2));
        Twin.acts("FORK of a sixth, into r3", others(4), 6, AT_ONCE, Asm.fork(3), Asm.set(3, -2));
        // An ended one is not free: 0, its ended child 1, two others and the forking one.
        Run ended = child(0, Asm.end(0)).turns(3).file(12, Asm.jump(0)).spawn(12, 0).spawn(12, 0);
        states("one of them ended", ended.make(), READY, ENDED, READY, READY, FREE);
        Twin.acts("FORK beside an ended one", ended, 6, AT_ONCE, Asm.fork(0), Asm.set(0, -2));
        // When it has been killed and is free, it is the one.
        Run killed = others(4).file(12, Asm.kill(0), Asm.fork(1), Asm.jump(2)).spawn(12, 2).turns(5);
        Check.due("FORK of the one that is free again", killed.make().register(4, 1), 2);
    }

    private static void parts() {
        Check.sentence("One that is not free has a PARENT (a process, or none); if it is not ended either: a PROGRAM, a list of up to 20"
            + " words; a SPOT; 4 REGISTERS, 0 to 3, ints; a directory, its PLACE; and 4 DESCRIPTORS, 0 to 3, each nothing, an"
            + " opening, or the reading or the writing end of a pipe.");
        int[] twenty = new int[20];
        Arrays.fill(twenty, Asm.nothing());
        UnixPersonality x = new Run().file(0, twenty).spawn(0, 0).turns(6).make();
        Check.due("word 18 is the next", x.spot(0), 18);
        x.run(1);
        Check.due("word 19 was the last: executed()", x.executed(), 21);
        Check.due("word 19 was the last: state(0)", x.state(0), FREE);
        twenty[19] = Asm.jump(19);
        x = new Run().file(0, twenty).spawn(0, 0).turns(9).make();
        Check.due("word 19 is executed", x.spot(0), 19);
        // Each register, and no other.
        for (int r = 0; r < 4; r++) {
            int[] due = {7, 0, 0, 0};
            due[r] = -9;
            registers("r" + r, after(new Run(), 7, Asm.set(r, -9)), 0, due);
        }
        registers("the smallest int", after(new Run(), LOW, Asm.move(3, 0)), 0, LOW, 0, 0, LOW);
        registers("the greatest int", after(new Run(), HIGH, Asm.move(3, 0)), 0, HIGH, 0, 0, HIGH);
        Check.sentence("An ended one has a RESULT.");
        for (int result : new int[] {0, -1, LOW, HIGH}) {
            x = child(result, Asm.set(2, 8), Asm.pipe(1, 3), Asm.end(0)).turns(6).make();
            Check.due("it ended", x.state(1), ENDED);
            Check.due("its result", x.spot(1), result);
            registers("it has no registers", x, 1, 0, 0, 0, 0);
            Check.due("nor descriptors", x.descriptor(1, 0), 0);
            Check.due("nor is its pipe there", x.pipe(0), -1);
        }
        Check.sentence("0 END with the result ra");
        for (int a = 0; a < 4; a++) {
            x = child(40, Asm.set(1, 41), Asm.set(2, 42), Asm.set(3, 43), Asm.end(a)).turns(8).make();
            Check.due("END with r" + a, x.spot(1), 40 + a);
        }
    }

    private static void arithmetic() {
        Check.sentence("Arithmetic wraps as in Java.");
        int[][] cases = {
            {HIGH, Asm.addNumber(0, 1), LOW}, {LOW, Asm.addNumber(0, -1), HIGH}, {HIGH, Asm.addNumber(0, HIGHEST_N), HIGH + HIGHEST_N},
            {LOW, Asm.addNumber(0, LOWEST_N), LOW + LOWEST_N}, {HIGH, Asm.add(0, 0), -2}, {LOW, Asm.add(0, 0), 0},
            {HIGH, Asm.add(0, 1), LOW}, {HIGH, Asm.add(0, 2), HIGH - 1}, {LOW, Asm.add(0, 2), HIGH}, {LOW, Asm.subtract(0, 1), HIGH},
            {HIGH, Asm.subtract(0, 2), LOW}, {LOW, Asm.subtract(0, 0), 0}, {1, Asm.subtract(3, 0), -1},
        };
        for (int[] c : cases) {
            UnixPersonality x = after(new Run(), c[0], Asm.set(1, 1), Asm.set(2, -1), c[1]);
            Check.due("word " + c[1] + " with r0 = " + c[0] + ", 1, -1, 0", x.register(0, (c[1] >> 5) & 3), c[2]);
        }
        Check.due("0 - LOW", after(new Run(), LOW, Asm.subtract(1, 0)).register(0, 1), LOW);
        Check.sentence("1 ra = n 2 ra = rb 3 ra = ra + rb 4 ra = ra - rb 5 ra = ra + n");
        registers("1", after(new Run(), 7, Asm.set(0, LOWEST_N), Asm.set(1, HIGHEST_N), Asm.set(2, 0), Asm.set(3, -1)), 0, LOWEST_N,
            HIGHEST_N, 0, -1);
        registers("2", after(new Run(), 7, Asm.set(1, 9), Asm.move(2, 0), Asm.move(0, 1), Asm.move(1, 3)), 0, 9, 0, 7, 0);
        registers("3", after(new Run(), 7, Asm.set(1, 9), Asm.add(2, 0), Asm.add(0, 1), Asm.add(2, 2)), 0, 16, 9, 14, 0);
        registers("4", after(new Run(), 7, Asm.set(1, 9), Asm.subtract(2, 0), Asm.subtract(0, 1), Asm.subtract(1, 1)), 0, -2, 0, -7, 0);
        registers("5", after(new Run(), 7, Asm.addNumber(0, 9), Asm.addNumber(1, -9), Asm.addNumber(2, 0)), 0, 16, -9, 0, 0);
        Check.sentence("6 ra = 1 if ra < rb, else 0");
        int[][] pairs = {{4, 5, 1}, {5, 5, 0}, {6, 5, 0}, {-1, 0, 1}, {0, 0, 0}, {0, -1, 0}, {LOW, 5, 1}, {HIGH, -5, 0}};
        for (int[] c : pairs) {
            registers(c[0] + " < " + c[1], after(new Run(), c[0], Asm.set(1, c[1]), Asm.less(0, 1)), 0, c[2], c[1], 0, 0);
        }
        registers("LOW < HIGH", after(new Run(), LOW, Asm.move(1, 0), Asm.addNumber(1, -1), Asm.less(0, 1)), 0, 1, HIGH, 0, 0);
        registers("HIGH < LOW", after(new Run(), HIGH, Asm.move(1, 0), Asm.addNumber(1, 1), Asm.less(0, 1)), 0, 0, LOW, 0, 0);
        registers("LOW < LOW", after(new Run(), LOW, Asm.less(0, 0)), 0, 0, 0, 0, 0);
    }

    private static void words() {
        Check.sentence("At its spot a process executes the word w of its program: op = w & 31, ra and rb are registers (w >> 5) & 3 and"
            + " (w >> 7) & 3, n = w >> 9.");
        for (int a = 0; a < 4; a++) {
            for (int b = 0; b < 4; b++) {
                int[] due = {40, 41, 42, 43};
                due[a] = due[b];
                int[] set = {Asm.set(1, 41), Asm.set(2, 42), Asm.set(3, 43)};
                UnixPersonality x = new Run().program(40, Twin.join(set, new int[] {Asm.word(2, a, b, -1)})).turns(2).make();
                registers("r" + a + " = r" + b + ", whatever n is", x, 0, due);
                due = new int[] {40, 41, 42, 43};
                due[a] = -6;
                x = new Run().program(40, Twin.join(set, new int[] {Asm.word(1, a, b, -6)})).turns(2).make();
                registers("r" + a + " = n, whatever rb is", x, 0, due);
            }
        }
        Check.due("the smallest word is END with r0", child(40, LOW).turns(6).make().spot(1), 40);
        Twin.acts("the greatest word", new Run(), 5, AT_ONCE, HIGH, Asm.move(0, 0));
        Twin.acts("the word -1", new Run(), 5, AT_ONCE, -1, Asm.move(0, 0));
        Check.sentence("29 to 31: nothing");
        for (int op = 29; op < 32; op++) {
            for (int n : new int[] {LOWEST_N, -1, 0, 1, HIGHEST_N}) {
                Twin.acts("op " + op + " with " + n, others(1), 5, AT_ONCE, Asm.word(op, 0, 1, n), Asm.move(0, 0));
                Twin.acts("op " + op + " with r3 and " + n, others(1), 5, AT_ONCE, Asm.word(op, 3, 0, n), Asm.move(0, 0));
            }
        }
    }

    private static void failing() {
        Check.sentence("something FAILS when it can't be done as said; then r3 = -1 and nothing else happens.");
        // A process that counts, and one that waits at its pipe; then every op that can fail, by numbers that nothing has.
        Run world = new Run().file(13, Asm.out(0), Asm.addNumber(0, 1), Asm.jump(0)).file(12, Asm.pipe(0, 1), Asm.read(2, 0))
            .file(0, 7, 8).spawn(12, 0).spawn(13, 40).turns(2);
        int[] words = {
            Asm.execute(2), Asm.open(2, 0), Asm.open(2, 1), Asm.open(2, 2), Asm.open(2, 3), Asm.close(2), Asm.copy(0, 2),
            Asm.read(0, 2), Asm.write(0, 2), Asm.seek(0, 2), Asm.make(2), Asm.go(2), Asm.link(2, 0), Asm.link(0, 2), Asm.remove(2),
            Asm.kill(2),
        };
        for (int word : words) {
            for (int number : new int[] {-1, 16, HIGHEST_N, LOWEST_N}) {
                Twin.fails("word " + word + " with r2 = " + number, world, 0, new int[] {Asm.set(2, number)}, word);
            }
        }
        UnixPersonality x = new Run().program(5, Asm.set(3, 8), Asm.close(0), Asm.set(1, 2), Asm.add(1, 1)).turns(2).make();
        registers("what comes then", x, 0, 5, 4, 0, -1);
    }

    private static void jumps() {
        Check.sentence("7 JUMP to n if ra = 0 8 JUMP to n 9 JUMP to n if ra is not 0");
        for (int value : new int[] {0, 1, -1, LOW, HIGH}) {
            for (int op = 7; op < 10; op++) {
                boolean jumps = op == 8 || (op == 7) == (value == 0);
                // Over the OUT, if it jumps.
                UnixPersonality x = after(new Run(), value, Asm.word(op, 0, 0, 2), Asm.out(0));
                Check.due("op " + op + " with " + value + ": printed()", x.printed(), jumps ? 0 : 1);
                Check.due("op " + op + " with " + value + ": spot(0)", x.spot(0), 2);
                if (!jumps) {
                    Twin.acts("op " + op + " with " + value, new Run(), value, AT_ONCE, Asm.word(op, 0, 0, 9), Asm.nothing());
                }
            }
        }
        for (int a = 0; a < 4; a++) {
            UnixPersonality x = after(new Run(), 1, Asm.set(1, 1), Asm.set(2, 1), Asm.set(3, 1), Asm.set(a, 0), Asm.jumpIfZero(a, 6),
                Asm.out(0));
            Check.due("JUMP if r" + a + " = 0", x.printed(), 0);
            x = after(new Run(), 0, Asm.set(a, 1), Asm.jumpIfNotZero(a, 3), Asm.out(0));
            Check.due("JUMP if r" + a + " is not 0", x.printed(), 0);
        }
        UnixPersonality x = new Run().file(0, Asm.nothing(), Asm.nothing(), Asm.jump(0)).spawn(0, 0).turns(1).make();
        Check.due("to the first word", x.spot(0), 0);
        x = new Run().file(0, Asm.jump(2), Asm.nothing(), Asm.jump(2)).spawn(0, 0).turns(1).make();
        Check.due("to itself", x.spot(0), 2);
    }

    private static void spotGrows() {
        Check.sentence("After an instruction that does not jump, wait, execute or end the spot is 1 more.");
        // With r0 = 14 and all else 0 each of these goes on, whether it fails or not; 7, 8 and 9 would not jump or jump to 1.
        for (int op = 1; op < 32; op++) {
            if (op != 12) {
                int word = Asm.word(op, op == 7 ? 0 : 1, 2, op == 8 ? 1 : 2);
                UnixPersonality x = new Run().file(14, word, Asm.yieldTurn(), Asm.out(0), Asm.jump(3)).spawn(14, 14).turns(1).make();
                Check.due("after op " + op, x.spot(0), op == 25 ? 1 : 2);
                Check.due("after op " + op + ": state(0)", x.state(0), READY);
            }
        }
    }

    private static void outside() {
        Check.sentence("At a spot outside its program it ends with the result -4.");
        // The child's program has 8 words, 4 of them its parent's.
        for (int spot : new int[] {8, 9, 19, 20, 21, HIGHEST_N, -1, -2, -20, LOWEST_N}) {
            Run run = child(5, Asm.nothing(), Asm.nothing(), Asm.nothing(), Asm.jump(spot));
            UnixPersonality x = run.turns(4).make();
            Check.due("at " + spot + ": state(1)", x.state(1), READY);
            Check.due("at " + spot + ": spot(1)", x.spot(1), spot);
            long before = x.executed();
            x = run.turns(6).make();
            Check.due("at " + spot + " it ended", x.state(1), ENDED);
            Check.due("at " + spot + ": its result", x.spot(1), -4);
            Check.due("at " + spot + ": what ends it counts", x.executed(), before + 3 + 1);
        }
        for (int spot : new int[] {3, 7}) {
            UnixPersonality x = child(5, Asm.nothing(), Asm.nothing(), Asm.jump(spot), Asm.jump(7)).turns(20).make();
            Check.due("at " + spot + " it goes on", x.state(1), READY);
        }
        UnixPersonality x = child(5, Asm.nothing()).turns(4).make();
        Check.due("behind its last word", x.spot(1), -4);
        // The last process of that number had a longer program: nothing of it is left.
        x = others(1).file(12, Asm.kill(0), Asm.end(0)).file(0, Asm.out(0), Asm.out(0), Asm.out(0), Asm.out(0), Asm.out(0), Asm.jump(5))
            .spawn(0, 5).turns(4).spawn(12, 1).turns(4).file(1, Asm.nothing()).make();
        Check.due("5 outputs", x.printed(), 5);
        Check.due("the same number", x.spawn(1, 0), 1);
        x.run(6);
        Check.due("it ended behind its only word", x.state(1), FREE);
        Check.due("it printed nothing", x.printed(), 5);
    }

    private static void fork() {
        Check.sentence("10 FORK: the smallest free process becomes a copy of this one, with this one as its parent, ready; ra = its"
            + " number here, -1 there;");
        for (int a = 0; a < 4; a++) {
            int[] here = {40, 41, 42, 43};
            int[] there = here.clone();
            here[a] = 2;
            there[a] = -1;
            UnixPersonality x = others(1).program(40, Asm.set(1, 41), Asm.set(2, 42), Asm.set(3, 43), Asm.fork(a)).turns(4).make();
            registers("FORK into r" + a + ", here", x, 1, here);
            registers("FORK into r" + a + ", there", x, 2, there);
            Check.due("FORK: ready", x.state(2), READY);
        }
        // 1 and 3 are free: the smallest is taken first.
        UnixPersonality x = new Run().file(13, Asm.jump(0)).file(12, Asm.set(0, 1), Asm.kill(0), Asm.set(0, 3), Asm.kill(0), Asm.fork(1),
            Asm.fork(2), Asm.jump(6)).spawn(13, 0).spawn(13, 0).spawn(13, 0).spawn(13, 0).spawn(12, 0).turns(20).make();
        Check.due("the smallest free one", x.register(4, 1), 1);
        Check.due("then the next", x.register(4, 2), 3);
        // 0 is free: 1 forks it, and it goes back to the first word of all 20.
        int[] all = new int[20];
        Arrays.fill(all, Asm.nothing());
        all[0] = Asm.jumpIfNotZero(2, 19);
        all[1] = Asm.fork(1);
        all[2] = Asm.set(2, 5);
        all[3] = Asm.jump(0);
        all[19] = Asm.jump(19);
        x = new Run().file(12, Asm.end(0)).file(13, all).spawn(12, 0).spawn(13, 0).turns(2).make();
        Check.due("FORK of 0", x.register(1, 1), 0);
        x.run(6);
        Check.due("the copy goes by word 0 to word 19", x.spot(0), 19);
        Check.due("as this one does", x.spot(1), 19);
        // The copy has the descriptors and the place, but no children.
        x = Worlds.nested(1).program(11, Asm.go(0), Asm.pipe(1, 2), Asm.set(3, 14), Asm.fork(3), Asm.addNumber(3, 1), Asm.jumpIfZero(3, 8),
            Asm.nothing(), Asm.jump(7), Asm.set(2, 5), Asm.make(2), Asm.jump(10)).turns(5).make();
        Check.due("its descriptors", x.descriptor(1, 0), 4096);
        Check.due("its descriptors", x.descriptor(1, 1), 8192);
        Check.due("its place", x.entry(2, 5), 4);
        x = new Run().file(13, Asm.fork(1), Asm.addNumber(1, 1), Asm.jumpIfZero(1, 8), Asm.fork(2), Asm.addNumber(2, 1),
            Asm.jumpIfZero(2, 7), Asm.jump(6), Asm.await(3, 2), Asm.jump(8)).spawn(13, 0).turns(12).make();
        Check.due("it has no children", x.register(2, 3), -1);
        Check.due("it goes on", x.spot(2), 8);
        Check.sentence("FORK: the copy stands at the spot behind the FORK, as this one does afterwards.");
        x = new Run().file(13, Asm.nothing(), Asm.nothing(), Asm.fork(1), Asm.jump(3)).spawn(13, 0).turns(1).make();
        Check.due("the copy's spot", x.spot(1), 3);
        Check.due("this one's spot", x.spot(0), 3);
        Run last = child(5, Asm.nothing(), Asm.nothing(), Asm.nothing(), Asm.fork(2));
        x = last.turns(4).make();
        Check.due("FORK as the last word: the copy's spot", x.spot(2), 8);
        Check.due("FORK as the last word: this one's spot", x.spot(1), 8);
        x = last.turns(6).make();
        Check.due("FORK as the last word: the copy ended", x.spot(2), -4);
        Check.due("FORK as the last word: this one goes on", x.spot(1), 8);
        x = last.turns(7).make();
        Check.due("FORK as the last word: this one ended", x.spot(1), -4);
    }

    private static void awaitChildren() {
        Check.sentence("11 WAIT: if it has ended children: of the smallest one ra = the result, then rb = the number, and that one is free"
            + " then; if it has no children ra = -1; else it waits");
        Twin.acts("WAIT without children", others(2), 7, AT_ONCE, Asm.await(1, 2), Asm.set(1, -1));
        Twin.acts("WAIT without children, ra = rb", others(2), 7, AT_ONCE, Asm.await(1, 1), Asm.set(1, -1));
        // 0 forks 1, which goes on for a while and ends with r0, and then waits for it.
        int[] one = {Asm.fork(2), Asm.addNumber(2, 1), Asm.jumpIfZero(2, 6), Asm.nothing(), Asm.await(2, 3), Asm.jump(5), Asm.nothing(),
            Asm.nothing(), Asm.nothing(), Asm.nothing(), Asm.nothing(), Asm.end(0)};
        Run run = new Run().file(13, one).spawn(13, LOW);
        UnixPersonality x = run.turns(3).make();
        states("no child has ended", x, WAITING, READY);
        Check.due("at its WAIT", x.spot(0), 4);
        registers("nothing changes", x, 0, LOW, 0, 2, 0);
        x = run.turns(5).make();
        states("it has ended", x, WAITING, ENDED);
        x = run.turns(6).make();
        states("that one is free", x, READY, FREE);
        registers("ra and rb", x, 0, LOW, 0, LOW, 1);
        one[4] = Asm.await(2, 2);
        registers("ra = rb: the number", new Run().file(13, one).spawn(13, LOW).turns(6).make(), 0, LOW, 0, 1, 0);
        one[4] = Asm.await(3, 0);
        registers("into r3 and r0", new Run().file(13, one).spawn(13, LOW).turns(6).make(), 0, 1, 0, 2, LOW);
        awaitOne();
    }

    /** Of several children, of others' children and of children's children. */
    private static void awaitOne() {
        // 0 forks 1, which ends late, and 2, which ends soon: 2 is taken first, although 1 is smaller.
        int[] two = {Asm.fork(2), Asm.addNumber(2, 1), Asm.jumpIfZero(2, 12), Asm.fork(2), Asm.addNumber(2, 1), Asm.jumpIfZero(2, 18),
            Asm.await(2, 1), Asm.out(1), Asm.await(2, 1), Asm.out(1), Asm.await(2, 1), Asm.jump(11), Asm.yieldTurn(), Asm.yieldTurn(),
            Asm.yieldTurn(), Asm.yieldTurn(), Asm.yieldTurn(), Asm.yieldTurn(), Asm.end(0)};
        UnixPersonality x = new Run().file(13, two).spawn(13, 8).turns(60).make();
        Check.due("the only ended one", x.output(0), 2);
        Check.due("then the other", x.output(1), 1);
        Check.due("then there are none", x.register(0, 2), -1);
        states("both are free", x, READY, FREE, FREE);
        // Both have ended when it looks: the smallest.
        int[] late = {Asm.fork(2), Asm.addNumber(2, 1), Asm.jumpIfZero(2, 14), Asm.fork(2), Asm.addNumber(2, 1), Asm.jumpIfZero(2, 17),
            Asm.set(2, -20), Asm.addNumber(2, 1), Asm.jumpIfNotZero(2, 7), Asm.await(2, 1), Asm.out(1), Asm.await(2, 1), Asm.out(1),
            Asm.jump(13), Asm.yieldTurn(), Asm.yieldTurn(), Asm.yieldTurn(), Asm.end(0)};
        x = new Run().file(13, late).spawn(13, 8).turns(16).make();
        states("both have ended", x, READY, ENDED, ENDED);
        x = new Run().file(13, late).spawn(13, 8).turns(60).make();
        Check.due("the smallest one", x.output(0), 1);
        Check.due("then the greater one", x.output(1), 2);
        // 1 is the parent of 0, and looks before or after that has ended.
        Run zero = new Run().file(12, Asm.end(0)).spawn(12, 0);
        Run before = zero.file(13, Asm.fork(1), Asm.jumpIfNotZero(1, 4), Asm.await(2, 3), Asm.jump(3), Asm.end(0)).spawn(13, 8);
        Run behind = zero.file(13, Asm.fork(1), Asm.jumpIfNotZero(1, 5), Asm.nothing(), Asm.await(2, 3), Asm.jump(4), Asm.end(0))
            .spawn(13, 8);
        states("before the child 0 has ended", before.turns(2).make(), READY, WAITING);
        states("after the child 0 has ended", behind.turns(3).make(), ENDED, READY);
        for (Run run : new Run[] {before, behind}) {
            x = run.turns(4).make();
            states("0 is free", x, FREE, READY);
            registers("0 is taken", x, 1, 8, 0, 8, 0);
        }
        // 1 ends, when its child 0 has ended.
        x = new Run().file(12, Asm.end(0)).file(13, Asm.fork(1), Asm.jumpIfNotZero(1, 6), Asm.yieldTurn(), Asm.yieldTurn(), Asm.yieldTurn(),
            Asm.end(0), Asm.end(0)).spawn(12, 0).spawn(13, 8).turns(4).make();
        states("its child 0 has ended", x, ENDED, READY);
        x.run(10);
        states("both are free", x, FREE, FREE);
        // 1 is another one's ended child, and stays that: 2 has none.
        x = child(8, Asm.end(0)).turns(3).program(5, Asm.await(1, 2)).turns(3).make();
        states("another one's child", x, READY, ENDED, READY);
        Check.due("is none", x.register(2, 1), -1);
        // 0 forks 1, which forks 2 and ends; 2 has ended, too: only 1 is 0's child, and 2 became free with it.
        x = new Run().file(13, Asm.fork(2), Asm.addNumber(2, 1), Asm.jumpIfZero(2, 8), Asm.set(2, -20), Asm.addNumber(2, 1),
            Asm.jumpIfNotZero(2, 4), Asm.await(2, 1), Asm.jump(6), Asm.fork(3), Asm.addNumber(3, 1), Asm.jumpIfZero(3, 14),
            Asm.nothing(), Asm.nothing(), Asm.nothing(), Asm.end(0)).spawn(13, 8).turns(10).make();
        states("a child's child", x, READY, ENDED, FREE);
        // 0 forks 1 and ends; the next 0 is not its parent.
        x = new Run().file(13, Asm.fork(2), Asm.addNumber(2, 1), Asm.jumpIfZero(2, 4), Asm.end(0), Asm.jump(4)).spawn(13, 8).turns(4)
            .program(5, Asm.await(1, 2)).turns(2).make();
        states("an orphan", x, READY, READY);
        Check.due("is nobody's child", x.register(0, 1), -1);
    }

    private static void kill() {
        Check.sentence("28 KILL: process ra, not itself, ends with the result -3; r3 = 1");
        for (int p : new int[] {0, 3}) {
            UnixPersonality x = others(4).program(p, Asm.kill(0)).turns(5).make();
            Check.due("KILL " + p + ": it is free", x.state(p), FREE);
            registers("KILL " + p, x, 4, p, 0, 0, 1);
        }
        UnixPersonality x = new Run().file(13, Asm.kill(0), Asm.jump(1)).spawn(13, 4).file(12, Asm.jump(0)).spawn(12, 0).spawn(12, 0)
            .spawn(12, 0).spawn(12, 0).turns(1).make();
        states("KILL 4", x, READY, READY, READY, READY, FREE);
        x = new Run().file(13, Asm.fork(1), Asm.kill(1), Asm.jump(2)).spawn(13, 0).turns(1).make();
        states("KILL of its child", x, READY, ENDED);
        Check.due("its result", x.spot(1), -3);
        x = new Run().file(13, Asm.pipe(0, 1), Asm.read(2, 0)).spawn(13, 0).turns(1).program(0, Asm.kill(0)).turns(1).make();
        states("KILL of a waiting one", x, FREE, READY);
        x = others(1).program(5, Asm.set(3, 0), Asm.kill(3)).turns(2).make();
        Check.due("KILL by r3", x.state(0), FREE);
        Check.due("then r3", x.register(1, 3), 1);
        Check.sentence("(it fails if that is free or ended, or ra is not from 0 to 4)");
        Twin.fails("KILL of itself", others(2), 2, AT_ONCE, Asm.kill(0));
        Twin.fails("KILL of 0 by itself", new Run(), 0, AT_ONCE, Asm.kill(0));
        Twin.fails("KILL of 4 by itself", others(4), 4, AT_ONCE, Asm.kill(0));
        for (int p : new int[] {3, 4, -1, 5, LOW, HIGH}) {
            Twin.fails("KILL of " + p, others(2), p, AT_ONCE, Asm.kill(0));
        }
        Run ended = child(8, Asm.end(0)).turns(3);
        Twin.fails("KILL of an ended one", ended, 1, AT_ONCE, Asm.kill(0));
        Check.due("which keeps its result", ended.program(1, Asm.kill(0)).turns(4).make().spot(1), 8);
        Twin.fails("KILL of a killed one", others(2), 1, new int[] {Asm.kill(0)}, Asm.kill(0));
    }

    private static void rest() {
        Check.sentence("24 OUT: ra is added to the output 25 YIELD 26 ra = its number");
        for (int a = 0; a < 4; a++) {
            UnixPersonality x = after(new Run(), 40, Asm.set(1, 41), Asm.set(2, 42), Asm.set(3, 43), Asm.out(a));
            Check.due("OUT r" + a, x.output(0), 40 + a);
            Check.due("one int", x.printed(), 1);
            x = others(a).program(9, Asm.number(a), Asm.yieldTurn()).turns(a + 1).make();
            Check.due("its number in r" + a, x.register(a, a), a);
        }
        Check.due("the number 4", others(4).program(9, Asm.number(0)).turns(5).make().register(4, 0), 4);
        for (int value : new int[] {LOW, HIGH}) {
            Check.due("OUT " + value, after(new Run(), value, Asm.out(0)).output(0), value);
        }
        UnixPersonality x = after(new Run(), 40, Asm.nothing(), Asm.nothing(), Asm.yieldTurn());
        registers("YIELD", x, 0, 40, 0, 0, 0);
        Check.due("YIELD: the spot behind", x.spot(0), 3);
    }

    public static void main(String[] args) {
        five();
        parts();
        arithmetic();
        words();
        failing();
        jumps();
        spotGrows();
        outside();
        fork();
        awaitChildren();
        kill();
        rest();
        Check.finish();
    }
}
