/** Forking, waiting, killing and ending, the queue and its turns, and the limits of promise 18. */
public final class TurnsTest {
    private static final int FREE = UnixPersonality.FREE;
    private static final int READY = UnixPersonality.READY;
    private static final int WAITING = UnixPersonality.WAITING;
    private static final int ENDED = UnixPersonality.ENDED;

    private static void states(String what, UnixPersonality x, int... due) {
        for (int p = 0; p < due.length; p++) {
            Check.due(what + ": state(" + p + ")", x.state(p), due[p]);
        }
    }

    private static void outputs(String what, UnixPersonality x, int... due) {
        Check.due(what + ": printed()", x.printed(), due.length);
        for (int k = 0; k < due.length; k++) {
            Check.due(what + ": output(" + k + ")", x.output(k), due[k]);
        }
    }

    private static void turnsGoRound() {
        UnixPersonality x = new UnixPersonality();
        Asm.load(x, 0, Asm.out(0), Asm.addNumber(0, 1), Asm.nothing(), Asm.jump(0));
        x.spawn(0, 100);
        x.spawn(0, 200);
        x.spawn(0, 300);
        x.run(6);
        outputs("3 instructions each", x, 100, 200, 300, 101, 201, 301);
        Check.due("executed", x.executed(), 18);
        UnixPersonality y = new UnixPersonality();
        Asm.load(y, 0, Asm.out(0), Asm.yieldTurn(), Asm.addNumber(0, 1), Asm.jump(0));
        y.spawn(0, 1);
        Check.due("YIELD: a turn", y.run(1), 1);
        Check.due("YIELD ends it", y.executed(), 2);
        Check.due("YIELD: the spot behind", y.spot(0), 2);
        Check.due("YIELD: ready", y.state(0), READY);
        y.run(1);
        Check.due("the next turn has 3 again", y.executed(), 5);
    }

    private static void promise18Fork() {
        UnixPersonality x = new UnixPersonality();
        Asm.load(x, 1, Asm.set(2, 6), Asm.pipe(0, 1), Asm.fork(3), Asm.jump(3));
        x.spawn(1, 0);
        x.spawn(1, 0);
        x.run(1);
        Check.due("18: the copy's spot is behind the FORK", x.spot(2), 3);
        Check.due("18: as this one's is", x.spot(0), 3);
        Check.due("FORK: the number here", x.register(0, 3), 2);
        Check.due("FORK: -1 there", x.register(2, 3), -1);
        Check.due("FORK: registers are copied", x.register(2, 2), 6);
        Check.due("FORK: descriptors are copied", x.descriptor(2, 0), 4096);
        Check.due("FORK: descriptors are copied", x.descriptor(2, 1), 8192);
        Check.due("FORK: ready", x.state(2), READY);
    }

    private static void forkCopiesPlaceAndSetsParent() {
        // Process 1 makes the directory 5 and goes there, forks 2, and waits; 2 makes 6 there, forks 3, and ends with 8.
        UnixPersonality x = new UnixPersonality();
        Asm.load(x, 0, Asm.staying());
        Asm.load(x, 1, Asm.make(0), Asm.go(0), Asm.pipe(1, 2), Asm.pipe(1, 2), Asm.fork(2), Asm.addNumber(2, 1),
            Asm.jumpIfZero(2, 9), Asm.await(0, 1), Asm.jump(8),
            Asm.set(0, 6), Asm.make(0), Asm.fork(2), Asm.set(0, 8), Asm.end(0));
        x.spawn(0, 0);
        x.spawn(1, 5);
        x.run(5);
        Check.due("FORK: descriptor 3 is copied", x.descriptor(2, 3), 8193);
        x.run(30);
        Check.due("FORK: the place is copied", x.entry(x.entry(0, 5), 6) > 0, true);
        states("FORK: the parent waited for its own child", x, READY, READY, FREE, FREE);
        Check.due("WAIT: its result", x.register(1, 0), 8);
        Check.due("WAIT: its number", x.register(1, 1), 2);
        Check.due("pipe 1 is held by process 1", x.pipe(1), 0);
    }

    private static void forkJoinsTheQueueAtOnce() {
        // The copy stands behind process 1 and before the forking one.
        UnixPersonality x = new UnixPersonality();
        Asm.load(x, 0, Asm.fork(1), Asm.nothing(), Asm.nothing(), Asm.out(1), Asm.jump(4));
        Asm.load(x, 1, Asm.out(0), Asm.jump(1));
        x.spawn(0, 0);
        x.spawn(1, 55);
        x.run(4);
        outputs("the forked one's place in the queue", x, 55, -1, 2);
    }

    private static void forkWithoutFreeProcess() {
        UnixPersonality x = Asm.after(0, Asm.fork(0), Asm.jump(0));
        x.run(40);
        states("FORK: all five", x, READY, READY, READY, READY, READY);
        Check.due("FORK: none is free", x.register(0, 0), -2);
        Check.due("FORK that finds none leaves r3", x.register(0, 3), 0);
    }

    private static void forkedOnesShareOpenings() {
        UnixPersonality x = Asm.after(14, Asm.open(0, 0), Asm.fork(2), Asm.read(1, 0), Asm.jump(3));
        x.run(2);
        Check.due("one position for both", x.descriptor(0, 0), 1 + 32);
        Check.due("one position for both", x.descriptor(1, 0), 1 + 32);
        Check.due("the first word here", x.register(0, 1), Asm.open(0, 0));
        Check.due("the second word there", x.register(1, 1), Asm.fork(2));
    }

    private static void waitForChildren() {
        UnixPersonality x = Asm.after(0, Asm.await(1, 2));
        Check.due("WAIT without children", x.register(0, 1), -1);
        Check.due("WAIT without children leaves rb", x.register(0, 2), 0);
        // 0 forks 1 and waits; 1 runs some turns and ends with 9.
        x = Asm.after(0, Asm.fork(0), Asm.jumpIfNotZero(1, 0), Asm.addNumber(0, 1), Asm.jumpIfZero(0, 6), Asm.await(1, 2),
            Asm.jump(5), Asm.nothing(), Asm.nothing(), Asm.set(3, 9), Asm.end(3));
        states("WAIT waits", x, WAITING, READY);
        Check.due("WAIT stays at its spot", x.spot(0), 4);
        x.run(1);
        states("the child ended, the parent is not woken yet", x, WAITING, ENDED);
        Check.due("the result", x.spot(1), 9);
        Check.due("run(0) wakes nobody", x.run(0), 0);
        states("run(0)", x, WAITING, ENDED);
        Check.due("a turn", x.run(1), 1);
        states("the child is free", x, READY, FREE);
        Check.due("WAIT: the result", x.register(0, 1), 9);
        Check.due("WAIT: the number", x.register(0, 2), 1);
    }

    private static void waitTakesTheSmallest() {
        // Children 1 and 2 end with 30 + their number, then the parent takes one of them.
        UnixPersonality x = new UnixPersonality();
        Asm.load(x, 0, Asm.fork(1), Asm.addNumber(1, 1), Asm.jumpIfZero(1, 12), Asm.fork(1), Asm.addNumber(1, 1),
            Asm.jumpIfZero(1, 12), Asm.yieldTurn(), Asm.yieldTurn(), Asm.yieldTurn(), Asm.await(1, 1), Asm.yieldTurn(),
            Asm.jump(9), Asm.number(2), Asm.addNumber(2, 30), Asm.end(2));
        x.spawn(0, 0);
        x.run(9);
        states("both ended", x, READY, ENDED, ENDED);
        Check.due("results", x.spot(1), 31);
        Check.due("results", x.spot(2), 32);
        x.run(1);
        states("the smallest one went", x, READY, FREE, ENDED);
        Check.due("WAIT: rb is set last", x.register(0, 1), 1);
        x.run(1);
        states("then the other", x, READY, FREE, FREE);
        x.run(1);
        Check.due("then there are none", x.register(0, 1), -1);
    }

    private static void endingFreesChildren() {
        // 0 forks 1, which ends and is kept, and 2, which stays; then 0 ends.
        UnixPersonality x = new UnixPersonality();
        Asm.load(x, 0, Asm.fork(1), Asm.addNumber(1, 1), Asm.jumpIfZero(1, 9), Asm.fork(1), Asm.addNumber(1, 1),
            Asm.jumpIfZero(1, 10), Asm.yieldTurn(), Asm.yieldTurn(), Asm.end(1), Asm.end(1), Asm.jump(10));
        x.spawn(0, 0);
        x.run(5);
        states("before", x, READY, ENDED, READY);
        x.run(6);
        states("an ended child is free, the other lives on", x, FREE, FREE, READY);
        Asm.load(x, 1, Asm.set(1, 2), Asm.kill(1), Asm.jump(2));
        x.spawn(1, 0);
        x.run(2);
        states("a killed one without parent is free", x, READY, FREE, FREE);
    }

    private static void endedProcessLetsGo() {
        UnixPersonality x = new UnixPersonality();
        Asm.load(x, 0, Asm.set(0, 5), Asm.open(0, 2), Asm.pipe(1, 2), Asm.set(0, 5), Asm.remove(0), Asm.end(0));
        x.spawn(0, 0);
        x.run(1);
        Check.due("the file is there", x.kind(2), 1);
        Check.due("the pipe is there", x.pipe(0), 0);
        x.run(1);
        Check.due("the file is free", x.kind(2), 0);
        Check.due("the pipe is not there", x.pipe(0), -1);
    }

    private static void pipesWait() {
        // The child (1) reads what the parent (0) writes: 4 words fit, the fifth waits.
        UnixPersonality x = new UnixPersonality();
        Asm.load(x, 0, Asm.pipe(0, 1), Asm.fork(3), Asm.addNumber(3, 1), Asm.jumpIfZero(3, 7), Asm.addNumber(2, 1),
            Asm.write(2, 1), Asm.jump(4), Asm.jumpIfZero(2, 8), Asm.yieldTurn(), Asm.yieldTurn(), Asm.yieldTurn(),
            Asm.yieldTurn(), Asm.yieldTurn(), Asm.yieldTurn(), Asm.yieldTurn(), Asm.read(2, 0), Asm.yieldTurn(), Asm.jump(15));
        x.spawn(0, 0);
        x.run(14);
        Check.due("4 words", x.pipe(0), 4);
        states("the writer waits", x, WAITING, READY);
        Check.due("at its WRITE", x.spot(0), 5);
        Check.due("which is not executed", x.register(0, 2), 5);
        x.run(1);
        Check.due("a word went", x.pipe(0), 3);
        states("the writer is not woken yet", x, WAITING, READY);
        Check.due("the first word", x.register(1, 2), 1);
        x.run(2);
        Check.due("the writer goes on", x.register(0, 2) > 5, true);
    }

    private static void readerWaitsWithItsOwnWritingEnd() {
        UnixPersonality x = Asm.after(0, Asm.pipe(0, 1), Asm.read(2, 0));
        states("the reader waits", x, WAITING);
        Check.due("at its READ", x.spot(0), 1);
        Check.due("which is not executed", x.executed(), 1);
        Check.due("for ever", x.run(5), 0);
    }

    private static void readerIsWokenByTheLastWriter() {
        // 0 closes its writing end and reads; the child (1) closes its reading end and ends.
        UnixPersonality x = new UnixPersonality();
        Asm.load(x, 0, Asm.pipe(0, 1), Asm.fork(2), Asm.addNumber(2, 1), Asm.jumpIfZero(2, 8), Asm.close(1), Asm.read(2, 0),
            Asm.out(3), Asm.jump(7), Asm.yieldTurn(), Asm.yieldTurn(), Asm.end(2));
        x.spawn(0, 0);
        x.run(3);
        x.run(1);
        states("the reader waits while there is a writing end", x, WAITING, READY);
        x.run(1);
        states("the child ended", x, WAITING, ENDED);
        x.run(1);
        states("the reader goes on", x, READY, ENDED);
        outputs("with r3 = 0", x, 0);
    }

    private static void writerWithoutReader() {
        UnixPersonality x = new UnixPersonality();
        Asm.load(x, 0, Asm.fork(0), Asm.addNumber(0, 1), Asm.jumpIfZero(0, 4), Asm.jump(3), Asm.pipe(0, 1), Asm.close(0),
            Asm.write(0, 1));
        x.spawn(0, 0);
        x.run(6);
        states("WRITE without reading end ends", x, READY, ENDED);
        Check.due("with -2", x.spot(1), -2);
        UnixPersonality y = Asm.after(0, Asm.pipe(0, 1), Asm.write(0, 1), Asm.jump(1), Asm.jump(3));
        y.run(4);
        states("the writer waits at its own pipe", y, WAITING);
        Check.due("nobody is in the queue", y.run(5), 0);
    }

    private static void aFullPipeWithoutReaderWakesTheWriter() {
        // The child (1) fills the pipe, then waits; the parent (0) counts for a while and closes the last reading end.
        UnixPersonality x = new UnixPersonality();
        Asm.load(x, 0, Asm.pipe(0, 1), Asm.fork(2), Asm.addNumber(2, 1), Asm.jumpIfZero(2, 9),
            Asm.set(2, -9), Asm.addNumber(2, 1), Asm.jumpIfNotZero(2, 5), Asm.close(0), Asm.jump(8),
            Asm.close(0), Asm.write(3, 1), Asm.jump(10));
        x.spawn(0, 0);
        x.run(10);
        states("the writer waits", x, READY, WAITING);
        x.run(40);
        states("the writer ended", x, READY, ENDED);
        Check.due("with -2", x.spot(1), -2);
    }

    /** 0 forks 1 and 2; 1 waits at their pipe, then 0 does; in turn 6 the writer, 2, writes. */
    private static UnixPersonality twoReaders(int secondWrite) {
        UnixPersonality x = new UnixPersonality();
        Asm.load(x, 0, Asm.pipe(0, 1), Asm.fork(2), Asm.addNumber(2, 1), Asm.jumpIfZero(2, 7), Asm.fork(3),
            Asm.addNumber(3, 1), Asm.jumpIfZero(3, 11),
            Asm.read(2, 0), Asm.number(2), Asm.out(2), Asm.jump(10),
            Asm.yieldTurn(), Asm.set(2, 70), Asm.write(2, 1), secondWrite, Asm.jump(15));
        x.spawn(0, 0);
        x.run(2);
        states("1 waits first", x, READY, WAITING);
        x.run(3);
        states("then 0", x, WAITING, WAITING, READY);
        return x;
    }

    private static void wokenOnesJoinSmallestFirst() {
        UnixPersonality x = twoReaders(Asm.write(2, 1));
        x.run(1);
        Check.due("two words", x.pipe(0), 2);
        states("nobody is woken before the next turn", x, WAITING, WAITING, READY);
        x.run(1);
        states("both are woken, behind the writer", x, READY, READY, READY);
        Check.due("the writer had the turn", x.spot(2), 15);
        outputs("the writer had the turn", x);
        x.run(1);
        outputs("the smallest first", x, 0);
        x.run(1);
        outputs("then the other", x, 0, 1);
    }

    private static void aWokenOneMayWaitAgain() {
        UnixPersonality x = twoReaders(Asm.nothing());
        x.run(2);
        Check.due("one word", x.pipe(0), 1);
        states("it wakes both", x, READY, READY, READY);
        x.run(1);
        outputs("0 takes it", x, 0);
        long before = x.executed();
        Check.due("1 has its turn", x.run(1), 1);
        Check.due("and executes nothing", x.executed(), before);
        states("and waits again", x, READY, WAITING, READY);
    }

    private static void killing() {
        for (int other : new int[] {-1, 0, 1, 4, 5, Integer.MIN_VALUE, Integer.MAX_VALUE}) {
            UnixPersonality x = Asm.after(other, Asm.kill(0));
            Check.due("KILL " + other, x.register(0, 3), -1);
            Check.due("KILL " + other + ": it lives", x.state(0), READY);
        }
        // 0 forks 1 and kills it, then kills it again.
        UnixPersonality x = new UnixPersonality();
        Asm.load(x, 0, Asm.fork(1), Asm.kill(1), Asm.yieldTurn(), Asm.kill(1), Asm.yieldTurn(), Asm.jump(5));
        x.spawn(0, 0);
        Check.due("KILL: the turn", x.run(1), 1);
        states("KILL of a child", x, READY, ENDED);
        Check.due("KILL: the result", x.spot(1), -3);
        Check.due("KILL: r3", x.register(0, 3), 1);
        x.run(1);
        Check.due("KILL of an ended one", x.register(0, 3), -1);
        Check.due("the killed one left the queue", x.executed(), 5);
    }

    private static void killingAWaitingOneAndAParent() {
        UnixPersonality x = new UnixPersonality();
        Asm.load(x, 0, Asm.pipe(0, 1), Asm.read(2, 0));
        Asm.load(x, 1, Asm.kill(0), Asm.jump(1));
        x.spawn(0, 0);
        x.run(1);
        states("waiting", x, WAITING);
        Check.due("spawn", x.spawn(1, 0), 1);
        x.run(1);
        states("KILL of a waiting one", x, FREE, READY);
        Check.due("KILL: its pipe is not there", x.pipe(0), -1);
        // The child kills its parent: it has no parent then, and is free when it ends.
        UnixPersonality y = new UnixPersonality();
        Asm.load(y, 0, Asm.fork(1), Asm.addNumber(1, 1), Asm.jumpIfNotZero(1, 2), Asm.kill(1), Asm.yieldTurn(), Asm.end(1));
        y.spawn(0, 0);
        y.run(1);
        states("before the KILL", y, READY, READY);
        y.run(1);
        states("KILL of the parent", y, FREE, READY);
        Check.due("the parent left the queue", y.run(1), 1);
        Check.due("the parent left the queue", y.executed(), 3 + 3 + 1);
        y.run(1);
        states("the orphan ends", y, FREE, FREE);
    }

    private static void promise18OpenBy2() {
        // The root is full, all nodes are taken: a file that is there opens by 2 all the same.
        UnixPersonality x = new UnixPersonality();
        Asm.load(x, 14, Asm.set(1, 13), Asm.make(1), Asm.go(1), Asm.make(2), Asm.go(2), Asm.make(2), Asm.go(2), Asm.make(2),
            Asm.set(3, 15), Asm.go(3), Asm.set(3, 15), Asm.go(3), Asm.set(3, 15), Asm.go(3), Asm.yieldTurn(), Asm.open(0, 2),
            Asm.jump(16));
        Asm.load(x, 9, 1, 2, 3);
        Asm.load(x, 10, 1);
        Asm.load(x, 11, 1);
        Asm.load(x, 12, 1);
        x.spawn(14, 9);
        x.run(5);
        Check.due("18: 6 entries", x.size(0), 6);
        Check.due("18: no free node", x.kind(9), 2);
        Check.due("18: not emptied yet", x.size(2), 3);
        x.run(1);
        Check.due("18: OPEN by 2 of a file that is there", x.descriptor(0, 0), 1);
        Check.due("18: emptied", x.size(2), 0);
    }

    private static void promise18OpenBy2OfNothing() {
        UnixPersonality x = new UnixPersonality();
        Asm.load(x, 14, Asm.staying(Asm.open(0, 2)));
        for (int name = 0; name < 5; name++) {
            Asm.load(x, name, 1);
        }
        x.spawn(14, 9);
        x.run(1);
        Check.due("18: OPEN by 2 of nothing with 6 entries", x.register(0, 3), -1);
        Check.due("18: it leaves ra", x.register(0, 0), 9);
        Check.due("18: no entry", x.entry(0, 9), -1);
        Check.due("18: no node", x.kind(7), FREE);
        // One directory in another until no node is free; the innermost place has room.
        UnixPersonality y = Asm.after(3, Asm.make(0), Asm.go(0), Asm.move(2, 3), Asm.addNumber(2, 1), Asm.jumpIfNotZero(2, 0),
            Asm.open(0, 2));
        y.run(20);
        Check.due("18: no node is free", y.kind(9), 2);
        Check.due("18: OPEN by 2 of nothing without a node", y.register(0, 3), -1);
        Check.due("18: no descriptor", y.descriptor(0, 0), 0);
        Check.due("18: the last place is empty", y.size(9), 0);
    }

    private static void promise18AllOpenings() {
        // 0 and 1 open four times each: 8. The next ones find none.
        UnixPersonality x = new UnixPersonality();
        Asm.load(x, 0, Asm.set(0, 1), Asm.open(0, 0), Asm.move(1, 0), Asm.addNumber(1, -3), Asm.jumpIfNotZero(1, 0), Asm.jump(5));
        Asm.load(x, 1, 5, 6);
        Asm.load(x, 2, Asm.staying(Asm.open(0, 2), Asm.set(1, 6), Asm.make(1)));
        x.spawn(0, 0);
        x.spawn(0, 0);
        x.run(20);
        int numbers = 0;
        for (int d = 0; d < 4; d++) {
            numbers += (1 << (x.descriptor(0, d) >> 9)) + (1 << (x.descriptor(1, d) >> 9));
        }
        Check.due("openings 0 to 7, each once", numbers, 255);
        x.spawn(2, 1);
        x.run(3);
        Check.due("18: OPEN by 2 with all openings there", x.register(2, 0), 1);
        Check.due("18: leaves the file", x.size(2), 2);
        Check.due("18: MAKE all the same", x.entry(0, 6), 4);
        x.run(3);
        Check.due("18: MAKE's r3", x.register(2, 3), 1);
        Asm.load(x, 3, Asm.staying(Asm.open(0, 2)));
        x.spawn(3, 8);
        x.run(4);
        Check.due("18: OPEN by 2 of nothing with all openings there", x.register(3, 3), -1);
        Check.due("18: makes no file", x.entry(0, 8), -1);
    }

    private static void promise18MakeCopyPipe() {
        UnixPersonality x = Asm.after(7, Asm.pipe(1, 2), Asm.pipe(1, 2), Asm.make(0));
        Check.due("18: MAKE without NEW", x.entry(0, 7), 2);
        Check.due("18: MAKE without NEW: r3", x.register(0, 3), 1);
        x = Asm.after(7, Asm.pipe(1, 2), Asm.pipe(1, 2), Asm.copy(0, 1));
        Check.due("18: COPY without NEW", x.register(0, 3), -1);
        Check.due("18: COPY without NEW leaves ra", x.register(0, 0), 7);
        x = Asm.after(7, Asm.pipe(1, 2), Asm.copy(3, 1), Asm.copy(3, 1), Asm.set(1, 9), Asm.set(2, 9), Asm.pipe(1, 2));
        Check.due("18: PIPE without NEW", x.register(0, 3), -1);
        Check.due("18: PIPE without NEW leaves ra", x.register(0, 1), 9);
        Check.due("18: PIPE without NEW leaves rb", x.register(0, 2), 9);
        Check.due("18: PIPE without NEW makes none", x.pipe(1), -1);
        // Both pipes are held by process 0: process 1 finds none.
        x = Asm.after(7, Asm.pipe(1, 2), Asm.pipe(1, 2));
        Asm.load(x, 1, Asm.staying(Asm.pipe(0, 1)));
        x.spawn(1, 5);
        x.run(2);
        Check.due("PIPE with both there", x.register(1, 3), -1);
        Check.due("PIPE with both there: nothing", x.descriptor(1, 0), 0);
    }

    private static void promise18MakeLimits() {
        UnixPersonality x = Asm.after(0, Asm.make(0), Asm.addNumber(0, 1), Asm.jump(0));
        x.run(4);
        Check.due("18: MAKE up to 6 entries", x.register(0, 3), 1);
        Check.due("18: the root is full", x.size(0), 6);
        x.run(1);
        Check.due("18: MAKE with 6 entries", x.register(0, 3), -1);
        Check.due("18: no node for it", x.kind(7), 0);
        UnixPersonality y = Asm.after(3, Asm.make(0), Asm.go(0), Asm.jump(0));
        y.run(7);
        Check.due("18: MAKE takes the last node", y.entry(8, 3), 9);
        Check.due("18: and goes there", y.register(0, 3), 1);
        y.run(1);
        Check.due("18: MAKE without a free node", y.size(9), 0);
        Check.due("18: MAKE without a free node: GO finds none", y.register(0, 3), -1);
    }

    private static void promise18ExecuteFails() {
        UnixPersonality x = Asm.after(2, Asm.execute(0), Asm.nothing(), Asm.set(1, 4), Asm.nothing(), Asm.nothing(), Asm.nothing());
        Check.due("18: EXECUTE that fails: the spot is 1 more", x.register(0, 1), 4);
        Check.due("18: EXECUTE that fails: r3", x.register(0, 3), -1);
        UnixPersonality y = new UnixPersonality();
        Asm.load(y, 0, Asm.execute(0), Asm.yieldTurn(), Asm.jump(2));
        y.spawn(0, 9);
        y.run(1);
        Check.due("18: EXECUTE that fails counts as one", y.spot(0), 2);
    }

    private static void endCountsAndResults() {
        // Each of the ways to end, seen by a parent.
        int[][] ways = {{Asm.set(2, -77), Asm.end(2), -77}, {Asm.nothing(), Asm.jump(40), -4}, {Asm.nothing(), Asm.jump(-1), -4}};
        for (int[] way : ways) {
            UnixPersonality x = new UnixPersonality();
            Asm.load(x, 0, Asm.fork(0), Asm.addNumber(0, 1), Asm.jumpIfZero(0, 4), Asm.jump(3), way[0], way[1]);
            x.spawn(0, 0);
            x.run(8);
            states("the child ended", x, READY, ENDED);
            Check.due("its result", x.spot(1), way[2]);
            Check.due("no register", x.register(1, 2), 0);
        }
    }

    public static void main(String[] args) {
        turnsGoRound();
        promise18Fork();
        forkCopiesPlaceAndSetsParent();
        forkJoinsTheQueueAtOnce();
        forkWithoutFreeProcess();
        forkedOnesShareOpenings();
        waitForChildren();
        waitTakesTheSmallest();
        endingFreesChildren();
        endedProcessLetsGo();
        pipesWait();
        readerWaitsWithItsOwnWritingEnd();
        readerIsWokenByTheLastWriter();
        writerWithoutReader();
        aFullPipeWithoutReaderWakesTheWriter();
        wokenOnesJoinSmallestFirst();
        aWokenOneMayWaitAgain();
        killing();
        killingAWaitingOneAndAParent();
        promise18OpenBy2();
        promise18OpenBy2OfNothing();
        promise18AllOpenings();
        promise18MakeCopyPipe();
        promise18MakeLimits();
        promise18ExecuteFails();
        endCountsAndResults();
        Check.finish();
    }
}
