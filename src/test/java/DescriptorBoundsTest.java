import java.util.Arrays;

/** What the Terms and promise 18 say about descriptors, openings and pipes, sentence by sentence: both sides of each boundary. */
public final class DescriptorBoundsTest {
    private static final int READY = UnixPersonality.READY;
    private static final int WAITING = UnixPersonality.WAITING;
    private static final int ENDED = UnixPersonality.ENDED;
    private static final int LOW = Integer.MIN_VALUE;
    private static final int HIGH = Integer.MAX_VALUE;
    private static final int[] AT_ONCE = {};
    private static final int[] NO_DESCRIPTORS = {-1, 4, 5, LOW, HIGH};
    /** Looks around where no descriptor or opening may be left: a new directory shows the place and the next node. */
    private static final int[] MAKE_12 = {Asm.set(0, 12), Asm.make(0)};
    private static final int[] TWENTY = {0, 1, 2, 3, 4, 5, 6, 7, 8, 9, 10, 11, 12, 13, 14, 15, 16, 17, 18, 19};

    private static UnixPersonality after(Run world, int x0, int[] before, int... words) {
        int[] all = Twin.join(before, words);
        return world.program(x0, all).turns((all.length + 2) / 3).make();
    }

    private static void registers(String what, UnixPersonality x, int... due) {
        for (int r = 0; r < 4; r++) {
            Check.due(what + ": register(0, " + r + ")", x.register(0, r), due[r]);
        }
    }

    private static void descriptors(String what, UnixPersonality x, int... due) {
        for (int d = 0; d < 4; d++) {
            Check.due(what + ": descriptor(0, " + d + ")", x.descriptor(0, d), due[d]);
        }
    }

    /** Processes that open the file 0 (node 1) as often as told, and go on. */
    private static Run openings(int... times) {
        Run run = new Run().file(0, 7, 8, 9).file(13, Asm.move(1, 0), Asm.set(0, 0), Asm.open(0, 0), Asm.addNumber(1, -1),
            Asm.jumpIfNotZero(1, 1), Asm.jump(5));
        for (int n : times) {
            run = run.spawn(13, n);
        }
        return run.turns(20);
    }

    private static void eightOpenings() {
        Check.sentence("There are 8 OPENINGS, 0 to 7; an opening is THERE iff some descriptor is it; then it has a file, a way"
            + " (READ or WRITE) and a position.");
        UnixPersonality x = openings(4, 3).program(0, Asm.open(0, 0)).turns(9).make();
        Check.due("the eighth", x.descriptor(2, 0), 1 + 512 * 7);
        for (int mode = 0; mode < 4; mode++) {
            Twin.fails("a ninth, by " + mode, openings(4, 4), 0, AT_ONCE, Asm.open(0, mode), MAKE_12);
        }
        Twin.fails("a ninth, by 2 of nothing", openings(4, 4), 5, AT_ONCE, Asm.open(0, 2), MAKE_12);
        Twin.fails("a ninth, of three processes", openings(4, 1, 3), 0, AT_ONCE, Asm.open(0, 0), MAKE_12);
        // A copy is no opening of its own: the 8 descriptors of two processes are two openings.
        x = new Run().file(0, 7).file(13, Asm.open(0, 0), Asm.copy(1, 0), Asm.copy(1, 0), Asm.copy(1, 0), Asm.jump(4))
            .spawn(13, 0).spawn(13, 0).turns(5).program(0, Asm.open(0, 0)).turns(5).make();
        Check.due("two with 8 descriptors", x.descriptor(2, 0), 1 + 512 * 2);
        // It is there until its last descriptor goes.
        int[] copied = {Asm.open(0, 0), Asm.copy(1, 0), Asm.close(0), Asm.set(2, 14)};
        descriptors("a copy is left", after(Worlds.files(1), 0, copied, Asm.open(2, 0)), 1 + 512, 1, 0, 0);
        descriptors("no copy is left", after(Worlds.files(1), 0, copied, Asm.close(1), Asm.open(2, 0)), 1, 0, 0, 0);
        // What had opening 0 before leaves nothing there: another file, way and position.
        x = after(Worlds.files(1).file(1, TWENTY), 0, AT_ONCE, Asm.open(0, 3), Asm.close(0), Asm.set(1, 1), Asm.open(1, 0),
            Asm.read(2, 0), Asm.read(2, 0));
        descriptors("opening 0 anew", x, 1 + 32, 0, 0, 0);
        registers("opening 0 anew", x, 0, 0, 1, 1);
    }

    private static void openingsOfChildren() {
        Check.sentence("NEW becomes the smallest opening that is not there, and ra is the descriptor's number.");
        // 0 opens and forks; 0 closes; while its child has the opening the next one is 1, then it is 0 again.
        Run run = new Run().file(14, Asm.open(0, 0), Asm.fork(2), Asm.addNumber(2, 1), Asm.jumpIfZero(2, 10), Asm.close(0),
            Asm.set(1, 14), Asm.open(1, 0), Asm.yieldTurn(), Asm.close(1), Asm.jump(5), Asm.nothing(), Asm.nothing(), Asm.nothing(),
            Asm.nothing(), Asm.nothing(), Asm.end(0)).spawn(14, 14);
        UnixPersonality x = run.turns(5).make();
        Check.due("the child has opening 0", x.descriptor(1, 0), 1);
        Check.due("the parent's next one", x.descriptor(0, 0), 1 + 512);
        x = run.turns(8).make();
        Check.due("the child has ended", x.state(1), ENDED);
        Check.due("the parent's next one then", x.descriptor(0, 0), 1);
        // A hole among openings 0, 1, 2.
        int[] hole = {Asm.open(0, 0), Asm.set(1, 0), Asm.open(1, 0), Asm.set(2, 0), Asm.open(2, 0), Asm.close(1), Asm.set(1, 0)};
        x = after(Worlds.files(1), 0, hole, Asm.open(1, 0));
        descriptors("1 is the smallest", x, 1, 1 + 512, 1 + 1024, 0);
        Check.due("its descriptor", x.register(0, 1), 1);
        x = after(Worlds.files(1), 0, hole, Asm.open(1, 0), Asm.set(1, 0), Asm.open(1, 0));
        descriptors("then 3", x, 1, 1 + 512, 1 + 1024, 1 + 1536);
        Check.due("its descriptor", x.register(0, 1), 3);
        registers("r3 stays", after(Worlds.files(1), 0, new int[] {Asm.set(3, 8)}, Asm.open(0, 0)), 0, 0, 0, 8);
    }

    private static void twoPipes() {
        Check.sentence("There are 2 PIPES, 0 and 1; a pipe is there iff some descriptor is an end of it; then it has a list of up to"
            + " 4 words, at first none.");
        Run one = new Run().file(13, Asm.pipe(0, 1), Asm.jump(1)).spawn(13, 0).turns(1);
        Run two = new Run().file(13, Asm.pipe(0, 1), Asm.pipe(0, 1), Asm.jump(2)).spawn(13, 0).turns(1);
        UnixPersonality x = one.program(0, Asm.pipe(0, 1)).turns(2).make();
        Check.due("the second", x.descriptor(1, 0), 4097);
        Check.due("its other end", x.descriptor(1, 1), 8193);
        Twin.fails("a third", two, 6, new int[] {Asm.set(1, 7)}, Asm.pipe(0, 1));
        // One end keeps it; with no end left it is the smallest again, without words.
        for (int closed = 0; closed < 2; closed++) {
            for (int other = 2; other < 4; other++) {
                Run kept = new Run().file(13, Asm.pipe(0, 1), Asm.pipe(2, 2), Asm.set(2, other), Asm.close(closed), Asm.close(2),
                    Asm.jump(5)).spawn(13, 0).turns(2);
                Twin.fails("a third, with " + closed + " and " + other + " closed", kept, 6, new int[] {Asm.set(1, 7)}, Asm.pipe(0, 1));
            }
        }
        int[] gone = {Asm.pipe(0, 1), Asm.write(0, 1), Asm.write(0, 1), Asm.pipe(2, 3), Asm.close(0), Asm.close(1), Asm.pipe(0, 1)};
        x = after(new Run(), 0, gone);
        descriptors("the smallest anew", x, 4096, 8192, 4097, 8193);
        Check.due("without words", x.pipe(0), 0);
        // 4 words, and no fifth.
        int[] full = {Asm.pipe(0, 1), Asm.write(0, 1), Asm.write(0, 1), Asm.write(0, 1), Asm.write(0, 1), Asm.nothing()};
        x = after(new Run(), 0, full);
        Check.due("4 words", x.pipe(0), 4);
        Check.due("the fourth does not wait", x.state(0), READY);
        x = after(new Run(), 0, full, Asm.write(0, 1));
        Check.due("still 4", x.pipe(0), 4);
        Check.due("the fifth waits", x.state(0), WAITING);
        int[] second = Twin.join(new int[] {Asm.pipe(0, 1), Asm.pipe(0, 1)}, Arrays.copyOfRange(full, 1, 5));
        x = after(new Run(), 0, second, Asm.nothing());
        Check.due("pipe 1: 4 words", x.pipe(1), 4);
        Check.due("pipe 1: the fourth does not wait", x.state(0), READY);
        x = after(new Run(), 0, second, Asm.write(0, 1));
        Check.due("pipe 1: still 4", x.pipe(1), 4);
        Check.due("pipe 1: the fifth waits", x.state(0), WAITING);
    }

    private static void newDescriptor() {
        Check.sentence("NEW means the smallest descriptor that is nothing;");
        int[] four = {Asm.open(0, 0), Asm.copy(1, 0), Asm.copy(1, 0), Asm.copy(1, 0)};
        for (int d = 0; d < 4; d++) {
            int[] hole = Twin.join(four, new int[] {Asm.set(1, d), Asm.close(1), Asm.set(2, (d + 1) % 4)});
            UnixPersonality x = after(Worlds.files(1), 0, hole, Asm.copy(1, 2));
            Check.due("COPY with only " + d + " left", x.register(0, 1), d);
            Check.due("it is that opening", x.descriptor(0, d), 1);
            x = after(Worlds.files(1), 0, hole, Asm.set(1, 0), Asm.open(1, 0));
            Check.due("OPEN with only " + d + " left", x.register(0, 1), d);
            Check.due("it is the next opening", x.descriptor(0, d), 1 + 512);
        }
        // 0 and 2 are left, then 1 and 3, for a PIPE.
        for (int d = 0; d < 2; d++) {
            UnixPersonality x = after(Worlds.files(1), 0, four, Asm.set(1, d), Asm.close(1), Asm.set(1, d + 2), Asm.close(1),
                Asm.pipe(1, 2));
            registers("PIPE with " + d + " and " + (d + 2) + " left", x, 0, d, d + 2, 1);
            Check.due("the reading end", x.descriptor(0, d), 4096);
            Check.due("the writing end", x.descriptor(0, d + 2), 8192);
        }
        Twin.fails("OPEN without NEW", Worlds.files(1), 0, Twin.join(four, new int[] {Asm.set(3, 5)}), Asm.open(0, 0), MAKE_12);
    }

    private static void close() {
        Check.sentence("14 CLOSE: descriptor rb becomes nothing, r3 = 1");
        int[] four = {Asm.pipe(0, 1), Asm.pipe(0, 1)};
        int[] ends = {4096, 8192, 4097, 8193};
        for (int d = 0; d < 4; d++) {
            UnixPersonality x = after(new Run(), 0, four, Asm.set(2, d), Asm.close(2));
            int[] due = ends.clone();
            due[d] = 0;
            descriptors("CLOSE " + d, x, due);
            registers("CLOSE " + d, x, 2, 3, d, 1);
        }
        UnixPersonality x = after(new Run(), 0, four, Asm.set(3, 2), Asm.close(3));
        descriptors("CLOSE by r3", x, 4096, 8192, 0, 8193);
        Check.due("then r3", x.register(0, 3), 1);
        Check.sentence("(both fail if rb is not from 0 to 3, or that is nothing)");
        int[] one = {Asm.open(0, 0), Asm.copy(1, 0), Asm.copy(1, 0), Asm.close(0)};
        int[] middle = {Asm.open(0, 0), Asm.copy(1, 0), Asm.copy(1, 0), Asm.copy(1, 0), Asm.set(2, 2), Asm.close(2)};
        for (int d : NO_DESCRIPTORS) {
            Twin.fails("CLOSE " + d, Worlds.files(1), d, new int[] {Asm.open(1, 0)}, Asm.close(0));
            Twin.fails("COPY " + d, Worlds.files(1), d, new int[] {Asm.open(1, 0)}, Asm.copy(1, 0));
        }
        for (int d : new int[] {0, 3}) {
            int[] chosen = Twin.join(one, new int[] {Asm.set(2, d)});
            Twin.fails("CLOSE " + d + ", nothing", Worlds.files(1), 0, chosen, Asm.close(2));
            Twin.fails("COPY " + d + ", nothing", Worlds.files(1), 0, chosen, Asm.copy(1, 2));
        }
        Twin.fails("CLOSE 2, nothing", Worlds.files(1), 0, middle, Asm.close(2));
        Twin.fails("COPY 2, nothing", Worlds.files(1), 0, middle, Asm.copy(1, 2));
        for (int d = 0; d < 4; d++) {
            Twin.fails("CLOSE " + d + " of four that are nothing", new Run(), d, AT_ONCE, Asm.close(0));
            Twin.fails("COPY " + d + " of four that are nothing", new Run(), d, AT_ONCE, Asm.copy(1, 0));
        }
    }

    private static void copy() {
        Check.sentence("18 COPY: NEW becomes what descriptor rb is, ra = its number");
        descriptors("of an opening", after(Worlds.files(1), 0, AT_ONCE, Asm.open(0, 3), Asm.copy(1, 0)), 17, 17, 0, 0);
        int[] pipe = {Asm.pipe(0, 1)};
        descriptors("of a reading end", after(new Run(), 0, pipe, Asm.copy(2, 0)), 4096, 8192, 4096, 0);
        descriptors("of a writing end", after(new Run(), 0, pipe, Asm.copy(2, 1)), 4096, 8192, 8192, 0);
        registers("its number", after(new Run(), 0, pipe, Asm.set(3, 8), Asm.copy(2, 1)), 0, 1, 2, 8);
        registers("ra = rb", after(new Run(), 0, pipe, Asm.copy(1, 1)), 0, 2, 0, 0);
        registers("into r3", after(new Run(), 0, pipe, Asm.copy(3, 1)), 0, 1, 0, 2);
        // 3 is the last one that can be taken, and can be copied itself.
        int[] three = {Asm.pipe(0, 1), Asm.copy(2, 0)};
        descriptors("the last NEW", after(new Run(), 0, three, Asm.copy(2, 1)), 4096, 8192, 4096, 8192);
        UnixPersonality x = after(new Run(), 0, three, Asm.copy(2, 1), Asm.close(0), Asm.copy(0, 2));
        descriptors("of descriptor 3", x, 8192, 8192, 4096, 8192);
        // One position for both: a READ by one is seen by the other.
        x = after(new Run().file(0, 7, 8), 0, AT_ONCE, Asm.open(0, 0), Asm.copy(1, 0), Asm.read(2, 0), Asm.read(2, 1));
        registers("one position", x, 0, 1, 8, 1);
        Check.sentence("COPY and PIPE fail, too, if there is no NEW.");
        int[] all = Twin.join(three, new int[] {Asm.copy(2, 1), Asm.set(2, 9)});
        Twin.fails("COPY without NEW", new Run(), 0, all, Asm.copy(2, 1), MAKE_12);
        Twin.fails("PIPE without NEW", new Run(), 0, all, Asm.pipe(2, 1), MAKE_12);
        Twin.fails("PIPE with one NEW", new Run(), 0, Twin.join(three, new int[] {Asm.set(2, 9)}), Asm.pipe(2, 1));
        x = after(Worlds.files(1), 0, AT_ONCE, Asm.open(0, 0), Asm.copy(1, 0), Asm.pipe(1, 2));
        descriptors("PIPE with two", x, 1, 1, 4096, 8192);
    }

    private static void readOpening() {
        Check.sentence("15 READ: of an opening for reading: if the position is less than the length r3 = 1, then ra = the word there,"
            + " and the position grows by 1; else r3 = 0.");
        Run two = new Run().file(0, 7, 8);
        int[] open = {Asm.open(0, 0)};
        int[] first = {Asm.open(0, 0), Asm.read(2, 0)};
        int[] both = {Asm.open(0, 0), Asm.read(2, 0), Asm.read(2, 0)};
        UnixPersonality x = after(two, 0, first, Asm.read(1, 0));
        registers("the last word", x, 0, 8, 7, 1);
        Check.due("the position", x.descriptor(0, 0), 1 + 32);
        Twin.acts("READ at the length", two, 0, both, Asm.read(1, 0), Asm.set(3, 0));
        Twin.acts("READ into r3 at the length", two, 0, both, Asm.read(3, 0), Asm.set(3, 0));
        x = after(two, 0, open, Asm.read(3, 0));
        Check.due("into r3, the word comes last", x.register(0, 3), 7);
        // The position comes to be above the length, and at it, when another opening empties the file and writes.
        int[] above = Twin.join(both, new int[] {Asm.set(1, 0), Asm.open(1, 2), Asm.write(2, 1)});
        Twin.acts("READ above the length", two, 0, above, Asm.read(2, 0), Asm.set(3, 0));
        x = after(two, 0, above, Asm.write(0, 1), Asm.set(2, 33), Asm.write(2, 1), Asm.read(2, 0));
        registers("the file has grown", x, 0, 1, 33, 1);
        Twin.acts("READ of an empty file", Worlds.directory(1), 0, new int[] {Asm.set(1, 11), Asm.go(1), Asm.open(0, 0)},
            Asm.read(2, 0), Asm.set(3, 0));
        // Positions 19 and 20 of 20 words, by SEEK.
        int[] at19 = {Asm.open(0, 0), Asm.set(1, 19), Asm.seek(1, 0)};
        Run full = new Run().file(0, TWENTY);
        x = after(full, 0, at19, Asm.read(2, 0));
        registers("word 19", x, 0, 19, 19, 1);
        Check.due("position 20", x.descriptor(0, 0), 1 + 16 * 20);
        Twin.acts("READ at 20", full, 0, Twin.join(at19, new int[] {Asm.read(2, 0)}), Asm.read(1, 0), Asm.set(3, 0));
    }

    private static void readPipe() {
        Check.sentence("Of a reading end: if the pipe has words r3 = 1, then ra = the first one, which goes; else, if no descriptor is"
            + " its writing end, r3 = 0; else it waits.");
        int[] one = {Asm.pipe(0, 1), Asm.set(2, 5), Asm.write(2, 1), Asm.set(2, 0), Asm.set(3, 8)};
        int[] closed = Twin.join(one, new int[] {Asm.close(1)});
        registers("a word and a writing end", after(new Run(), 0, one, Asm.read(2, 0)), 0, 1, 5, 1);
        registers("a word and no writing end", after(new Run(), 0, closed, Asm.read(2, 0)), 0, 1, 5, 1);
        registers("into r3, the word comes last", after(new Run(), 0, one, Asm.read(3, 0)), 0, 1, 0, 5);
        Check.due("the word went", after(new Run(), 0, one, Asm.read(2, 0)).pipe(0), 0);
        Twin.acts("READ with no word and no writing end", new Run(), 0, Twin.join(closed, new int[] {Asm.read(2, 0)}), Asm.read(2, 0),
            Asm.set(3, 0));
        // Four words come in the order they went in, also when some have gone between.
        UnixPersonality x = new Run().program(0, Asm.pipe(0, 1), Asm.set(2, 5), Asm.write(2, 1), Asm.write(1, 1), Asm.write(0, 1),
            Asm.read(3, 0), Asm.out(3), Asm.set(2, 6), Asm.write(2, 1), Asm.set(2, 7), Asm.write(2, 1), Asm.read(3, 0), Asm.out(3),
            Asm.jump(11)).turns(20).make();
        int[] order = {5, 1, 0, 6, 7};
        for (int k = 0; k < 5; k++) {
            Check.due("output(" + k + ")", x.output(k), order[k]);
        }
        Check.due("then it waits", x.state(0), WAITING);
        Check.due("it prints no more", x.printed(), 5);
        // The writing end is its own, a copy, or another process's.
        x = after(new Run(), 0, AT_ONCE, Asm.pipe(0, 1), Asm.nothing(), Asm.read(2, 0));
        Check.due("its own writing end: it waits", x.state(0), WAITING);
        Check.due("nothing is executed", x.executed(), 2);
        Check.due("the spot stays", x.spot(0), 2);
        registers("nothing changes", x, 0, 1, 0, 0);
        x = after(new Run(), 0, AT_ONCE, Asm.pipe(0, 1), Asm.copy(2, 1), Asm.close(1), Asm.read(2, 0));
        Check.due("a copied writing end: it waits", x.state(0), WAITING);
        Run shared = new Run().file(13, Asm.pipe(0, 1), Asm.fork(2), Asm.addNumber(2, 1), Asm.jumpIfZero(2, 7), Asm.close(1),
            Asm.read(2, 0), Asm.jump(6), Asm.jump(7)).spawn(13, 0);
        x = shared.turns(6).make();
        Check.due("another one's writing end: it waits", x.state(0), WAITING);
        x = shared.turns(6).file(12, Asm.kill(0), Asm.end(0)).spawn(12, 1).turns(5).make();
        Check.due("the other one is killed: r3 = 0", x.register(0, 3), 0);
        Check.due("the other one is killed: it goes on", x.spot(0), 6);
        x = after(new Run(), 0, AT_ONCE, Asm.pipe(0, 1), Asm.pipe(0, 1), Asm.read(2, 0));
        Check.due("pipe 1, its own writing end: it waits", x.state(0), WAITING);
        x = after(new Run(), 0, AT_ONCE, Asm.pipe(0, 1), Asm.pipe(0, 1), Asm.set(3, 8), Asm.close(1), Asm.read(2, 0));
        registers("pipe 1, no writing end", x, 2, 3, 0, 0);
        // The other pipe's words and ends do not matter.
        x = after(new Run(), 0, AT_ONCE, Asm.pipe(0, 1), Asm.pipe(2, 3), Asm.write(2, 3), Asm.nothing(), Asm.read(2, 0));
        Check.due("only the other pipe has words: it waits", x.state(0), WAITING);
        x = after(new Run(), 0, AT_ONCE, Asm.pipe(0, 1), Asm.pipe(2, 3), Asm.close(1), Asm.read(2, 0));
        Check.due("only the other pipe has a writing end", x.register(0, 3), 0);
        readFails();
    }

    private static void readFails() {
        Check.sentence("(Of descriptor rb; else it fails.)");
        Run world = new Run().file(0, 7, 8);
        for (int d : NO_DESCRIPTORS) {
            Twin.fails("READ of " + d, world, d, new int[] {Asm.open(1, 0)}, Asm.read(2, 0));
        }
        for (int d = 0; d < 4; d++) {
            Twin.fails("READ of " + d + ", nothing", world, d, AT_ONCE, Asm.read(2, 0));
        }
        for (int mode = 1; mode < 4; mode++) {
            Twin.fails("READ of an opening by " + mode, world, 0, new int[] {Asm.open(0, mode)}, Asm.read(2, 0));
        }
        Twin.fails("READ of a writing end", world, 0, new int[] {Asm.pipe(0, 1), Asm.write(0, 1), Asm.set(3, 5)}, Asm.read(2, 1));
        int[] last = {Asm.open(0, 0), Asm.copy(1, 0), Asm.copy(1, 0), Asm.copy(1, 0)};
        registers("READ of 3", after(world, 0, last, Asm.read(2, 1)), 0, 3, 7, 1);
    }

    private static void writeOpening() {
        Check.sentence("16 WRITE: to an opening for writing: ra becomes the word at the position, or a new last word if that is the"
            + " length (it fails with 20 words then, or if the position is above the length); the position grows by 1, r3 = 1.");
        Run two = new Run().file(0, 7, 8);
        int[] open = {Asm.open(0, 1), Asm.set(1, 55)};
        int[] second = Twin.join(open, new int[] {Asm.write(1, 0)});
        int[] both = Twin.join(second, new int[] {Asm.write(1, 0)});
        UnixPersonality x = after(two, 0, second, Asm.write(1, 0));
        Check.due("the last word", x.word(1, 1), 55);
        Check.due("2 words still", x.size(1), 2);
        Check.due("the position", x.descriptor(0, 0), 1 + 32);
        Check.due("r3", x.register(0, 3), 1);
        x = after(two, 0, both, Asm.write(1, 0));
        Check.due("a new last word", x.word(1, 2), 55);
        Check.due("3 words", x.size(1), 3);
        Check.due("the position", x.descriptor(0, 0), 1 + 48);
        x = after(two, 0, new int[] {Asm.open(0, 1), Asm.set(3, 66)}, Asm.write(3, 0));
        Check.due("WRITE of r3: what it was", x.word(1, 0), 66);
        Check.due("WRITE of r3: then 1", x.register(0, 3), 1);
        // 20 words: the last one can be overwritten, none can be added.
        Run full = new Run().file(0, TWENTY);
        int[] at19 = {Asm.open(0, 1), Asm.set(1, 19), Asm.seek(1, 0), Asm.set(1, 55)};
        x = after(full, 0, at19, Asm.write(1, 0));
        Check.due("word 19 of 20", x.word(1, 19), 55);
        Check.due("position 20", x.descriptor(0, 0), 1 + 16 * 20);
        Twin.fails("WRITE at 20 of 20", full, 0, Twin.join(at19, new int[] {Asm.write(1, 0)}), Asm.write(1, 0));
        x = after(new Run().file(0, Arrays.copyOf(TWENTY, 19)), 0, at19, Asm.write(1, 0));
        Check.due("word 19 of 19", x.word(1, 19), 55);
        Check.due("20 words", x.size(1), 20);
        // Emptied by another opening: the position, 2, is above the length 0 and 1, and is the length 2.
        int[] above = Twin.join(both, new int[] {Asm.set(2, 0), Asm.open(2, 2)});
        Twin.fails("WRITE 2 above the length", two, 0, above, Asm.write(1, 0));
        Twin.fails("WRITE 1 above the length", two, 0, Twin.join(above, new int[] {Asm.write(1, 2)}), Asm.write(1, 0));
        x = after(two, 0, above, Asm.write(1, 2), Asm.write(1, 2), Asm.write(0, 0));
        Check.due("WRITE at the length", x.size(1), 3);
        Check.due("its word", x.word(1, 2), 0);
        Check.due("its position", x.descriptor(0, 0), 1 + 48);
        // Position 20, the file emptied: no more than above the length.
        Twin.fails("WRITE at 20 of none", full, 0, Twin.join(at19, new int[] {Asm.write(1, 0), Asm.set(2, 0), Asm.open(2, 2)}),
            Asm.write(1, 0));
    }

    private static void writePipe() {
        Check.sentence("To a writing end: if no descriptor is the pipe's reading end it ends with the result -2; else, if the pipe has 4"
            + " words, it waits; else ra becomes its last word and r3 = 1.");
        // The child of a process that stays writes as often as told, having closed its reading end if told.
        int[][] cases = {{0, 3, READY, 3}, {0, 4, READY, 4}, {0, 5, WAITING, 4}, {1, 1, ENDED, -1}};
        for (int[] c : cases) {
            UnixPersonality x = new Run().file(13, Asm.fork(1), Asm.addNumber(1, 1), Asm.jumpIfZero(1, 4), Asm.jump(3), Asm.pipe(0, 1),
                c[0] == 1 ? Asm.close(0) : Asm.nothing(), Asm.set(2, -c[1]), Asm.write(2, 1), Asm.addNumber(2, 1),
                Asm.jumpIfNotZero(2, 7), Asm.jump(10)).spawn(13, 0).turns(30).make();
            String what = "WRITE " + c[1] + " times" + (c[0] == 1 ? " without reading end" : "");
            Check.due(what + ": state(1)", x.state(1), c[2]);
            Check.due(what + ": pipe(0)", x.pipe(0), c[3]);
            Check.due(what + ": spot(1)", x.spot(1), c[2] == ENDED ? -2 : c[2] == WAITING ? 7 : 10);
            Check.due(what + ": r3", x.register(1, 3), c[2] == ENDED ? 0 : 1);
        }
        UnixPersonality x = after(new Run(), 0, AT_ONCE, Asm.pipe(0, 1), Asm.set(3, 9), Asm.write(3, 1), Asm.read(2, 0));
        Check.due("WRITE of r3: what it was", x.register(0, 2), 9);
        // The reading end is a copy, or another process's.
        x = after(new Run(), 0, AT_ONCE, Asm.pipe(0, 1), Asm.copy(2, 0), Asm.close(0), Asm.write(2, 1));
        Check.due("a copied reading end", x.pipe(0), 1);
        writePipeOfTwo();
        x = after(new Run(), 0, AT_ONCE, Asm.pipe(0, 1), Asm.pipe(0, 1), Asm.close(0), Asm.write(2, 1));
        Check.due("pipe 1, no reading end: it ended", x.state(0), UnixPersonality.FREE);
        // The other pipe's ends and words do not matter.
        x = after(new Run(), 0, AT_ONCE, Asm.pipe(0, 1), Asm.pipe(2, 3), Asm.close(0), Asm.write(2, 1));
        Check.due("only the other pipe has a reading end", x.state(0), 0);
        x = after(new Run(), 0, AT_ONCE, Asm.pipe(0, 1), Asm.write(0, 1), Asm.write(0, 1), Asm.write(0, 1), Asm.write(0, 1),
            Asm.pipe(2, 3), Asm.write(0, 3));
        Check.due("only the other pipe is full", x.pipe(1), 1);
        writeFails();
    }

    /** 1 has the writing end of a full pipe alone; 0 has the reading end, closes it at last, and stays. */
    private static void writePipeOfTwo() {
        Run run = new Run().file(13, Asm.pipe(0, 1), Asm.fork(2), Asm.addNumber(2, 1), Asm.jumpIfZero(2, 9), Asm.set(2, -12),
            Asm.addNumber(2, 1), Asm.jumpIfNotZero(2, 5), Asm.close(0), Asm.jump(8), Asm.close(0), Asm.write(1, 1), Asm.jump(10))
            .spawn(13, 0);
        UnixPersonality x = run.turns(12).make();
        Check.due("full, another one's reading end: it waits", x.state(1), WAITING);
        Check.due("4 words", x.pipe(0), 4);
        x = run.turns(80).make();
        Check.due("full, no reading end: it ends", x.state(1), ENDED);
        Check.due("with the result -2", x.spot(1), -2);
        Check.due("0's writing end keeps the pipe", x.pipe(0), 4);
    }

    private static void writeFails() {
        Check.sentence("(To descriptor rb; else it fails.)");
        Run world = new Run().file(0, 7, 8);
        for (int d : NO_DESCRIPTORS) {
            Twin.fails("WRITE to " + d, world, d, new int[] {Asm.open(1, 1)}, Asm.write(2, 0));
        }
        for (int d = 0; d < 4; d++) {
            Twin.fails("WRITE to " + d + ", nothing", world, d, AT_ONCE, Asm.write(2, 0));
        }
        Twin.fails("WRITE to an opening for reading", world, 0, new int[] {Asm.open(0, 0)}, Asm.write(2, 0));
        Twin.fails("WRITE to a reading end", world, 0, new int[] {Asm.pipe(0, 1), Asm.write(0, 1)}, Asm.write(2, 0));
        int[] last = {Asm.open(0, 1), Asm.copy(1, 0), Asm.copy(1, 0), Asm.copy(1, 0)};
        Check.due("WRITE to 3", after(world, 0, last, Asm.write(2, 1)).word(1, 0), 0);
    }

    private static void pipe() {
        Check.sentence("17 PIPE: NEW becomes the reading end, the next NEW the writing end of the smallest pipe that is not there; ra ="
            + " the first one's number, then rb = the second one's");
        registers("ra and rb", after(new Run(), 5, AT_ONCE, Asm.set(3, 8), Asm.pipe(0, 1)), 0, 1, 0, 8);
        registers("ra = rb: the second comes last", after(new Run(), 5, AT_ONCE, Asm.pipe(0, 0)), 1, 0, 0, 0);
        registers("into r3", after(new Run(), 5, AT_ONCE, Asm.pipe(2, 3)), 5, 0, 0, 1);
        Run other = new Run().file(13, Asm.pipe(0, 1), Asm.pipe(0, 1), Asm.set(0, 0), Asm.set(1, 1), Asm.close(0), Asm.close(1),
            Asm.jump(6)).spawn(13, 0).turns(2);
        UnixPersonality x = other.program(0, Asm.pipe(0, 1)).turns(2).make();
        Check.due("0 is not there, 1 is: the smallest", x.descriptor(1, 0), 4096);
        x = other.program(0, Asm.pipe(0, 1), Asm.set(2, 7), Asm.pipe(2, 3), Asm.yieldTurn()).turns(4).make();
        Check.due("then none: r3", x.register(1, 3), -1);
        Check.due("then none: ra", x.register(1, 2), 7);
        Check.due("then none: descriptor 2", x.descriptor(1, 2), 0);
    }

    private static void seek() {
        Check.sentence("19 SEEK: the position of opening rb becomes ra, from 0 to the length; r3 = 1");
        int[][] cases = {{2, 0}, {2, 1}, {2, 2}, {20, 0}, {20, 19}, {20, 20}, {1, 0}, {1, 1}};
        for (int mode : new int[] {0, 1, 3}) {
            for (int[] c : cases) {
                UnixPersonality x = after(new Run().file(0, Arrays.copyOf(TWENTY, c[0])), 0, AT_ONCE, Asm.open(0, mode),
                    Asm.set(1, c[1]), Asm.seek(1, 0));
                String what = "SEEK to " + c[1] + " of " + c[0] + ", by " + mode;
                Check.due(what, x.descriptor(0, 0), 1 + 16 * c[1]);
                registers(what, x, 0, c[1], 0, 1);
            }
        }
        UnixPersonality x = after(new Run().file(0, 7, 8), 0, AT_ONCE, Asm.open(0, 0), Asm.set(3, 2), Asm.seek(3, 0));
        Check.due("SEEK by r3", x.descriptor(0, 0), 1 + 32);
        Check.due("then r3", x.register(0, 3), 1);
        x = after(Worlds.directory(1), 0, new int[] {Asm.set(1, 11), Asm.go(1), Asm.open(0, 0)}, Asm.set(3, 8), Asm.seek(2, 0));
        Check.due("SEEK to 0 of none", x.register(0, 3), 1);
        Check.sentence("(it fails if descriptor rb is no opening, or ra is not so)");
        for (int length : new int[] {1, 2, 20}) {
            Run world = new Run().file(0, Arrays.copyOf(TWENTY, length)).file(1, TWENTY);
            for (int to : new int[] {-1, length + 1, LOW, HIGH}) {
                int[] set = {Asm.open(1, 3)};
                Twin.fails("SEEK to " + to + " of " + length, world, to, set, Asm.seek(0, 1));
            }
        }
        int[] into = {Asm.set(1, 11), Asm.go(1), Asm.open(2, 0), Asm.set(3, 5)};
        Twin.fails("SEEK to 1 of none", Worlds.directory(1), 1, into, Asm.seek(0, 2));
        // The length is what it is now: the file has been emptied.
        int[] emptied = {Asm.open(0, 0), Asm.set(1, 0), Asm.open(1, 2), Asm.set(2, 1)};
        Twin.fails("SEEK to 1 of an emptied file", new Run().file(0, 7, 8), 0, emptied, Asm.seek(2, 0));
        for (int d : NO_DESCRIPTORS) {
            Twin.fails("SEEK of " + d, new Run().file(0, 7, 8), d, new int[] {Asm.open(1, 3)}, Asm.seek(2, 0));
        }
        for (int d = 0; d < 4; d++) {
            Twin.fails("SEEK of " + d + ", nothing", new Run(), d, AT_ONCE, Asm.seek(1, 0));
        }
        Twin.fails("SEEK of a reading end", new Run(), 0, new int[] {Asm.pipe(0, 1), Asm.write(0, 1)}, Asm.seek(2, 0));
        Twin.fails("SEEK of a writing end", new Run(), 0, new int[] {Asm.pipe(0, 1), Asm.write(0, 1)}, Asm.seek(2, 1));
    }

    public static void main(String[] args) {
        eightOpenings();
        openingsOfChildren();
        twoPipes();
        newDescriptor();
        close();
        copy();
        readOpening();
        readPipe();
        writeOpening();
        writePipe();
        pipe();
        seek();
        Check.finish();
    }
}
