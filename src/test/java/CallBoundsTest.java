import java.util.Arrays;
import java.util.Map;

/** Promises 1 to 17, sentence by sentence: both sides of each boundary, and that a refused call does nothing. */
public final class CallBoundsTest {
    private static final int BAD = UnixPersonality.BAD;
    private static final int FREE = UnixPersonality.FREE;
    private static final int READY = UnixPersonality.READY;
    private static final int WAITING = UnixPersonality.WAITING;
    private static final int ENDED = UnixPersonality.ENDED;
    private static final int LOW = Integer.MIN_VALUE;
    private static final int HIGH = Integer.MAX_VALUE;

    /** A process that goes on for ever and shows by its output how far it is. */
    private static Run counting() {
        return new Run().file(13, Asm.out(0), Asm.addNumber(0, 1), Asm.jump(0)).spawn(13, 40);
    }

    /** Process 0 is ready, 1 (its child) ended with the result 77, 2 waits at its pipe, 3 is free, 4 is ready. */
    private static Run allStates() {
        return new Run()
            .file(0, Asm.fork(1), Asm.addNumber(1, 1), Asm.jumpIfZero(1, 4), Asm.jump(3), Asm.set(2, 77), Asm.end(2))
            .file(1, Asm.set(1, 5), Asm.set(3, 8), Asm.pipe(0, 2), Asm.read(1, 0))
            .file(2, Asm.nothing(), Asm.end(0))
            .file(3, Asm.set(3, 9), Asm.set(1, 3), Asm.open(1, 0), Asm.jump(3))
            .spawn(0, 6).turns(3).spawn(1, 0).turns(3).spawn(2, 0).spawn(3, 7).turns(6);
    }

    private static void newObject() {
        Check.sentence("Only the root, without entries; all processes are free; the output is empty; the level is 1.");
        Map<String, Long> seen = View.of(new UnixPersonality());
        seen.forEach((call, answer) -> {
            long due = 0;
            if (call.equals("kind(0)")) {
                due = 2;
            } else if (call.startsWith("pipe") || call.startsWith("entry(0, ") && !call.equals("entry(0, 15)")) {
                due = -1;
            } else if (call.startsWith("spot") || call.startsWith("entry") && !call.startsWith("entry(0, ")
                || call.startsWith("size") && !call.equals("size(0)")) {
                due = BAD;
            }
            Check.due(call, answer, due);
        });
        Check.due("nobody is in the queue, run(1)", new UnixPersonality().run(1), 0);
        Twin.same("level(1) on a new object", counting().call(x -> x.level(1)), counting());
        Twin.same("level(1) first of all", new Run().call(x -> x.level(1)).file(5, 1, 2), new Run().file(5, 1, 2));
    }

    private static void fileMakesOrWrites() {
        Check.sentence("In the root: makes a file (the smallest free node) if there is nothing with that name, and makes w its"
            + " word i, or its new last word if i is the number of its words.");
        // Names 1 and 2 (nodes 2 and 3) are removed; the program is node 5.
        UnixPersonality x = Worlds.files(4).program(1, Asm.remove(0), Asm.addNumber(0, 1), Asm.remove(0)).turns(1).make();
        Check.due("the smallest free node", x.file(9, 0, 7), 2);
        Check.due("its word", x.word(2, 0), 7);
        Check.due("its only word", x.size(2), 1);
        Check.due("an entry of the root", x.entry(0, 9), 2);
        Check.due("the next one", x.file(8, 0, 7), 3);
        Check.due("the one behind all", x.file(7, 0, 7), 6);
        x = new Run().file(3, 10, 11, 12).make();
        Check.due("the first word", x.file(3, 0, LOW), 1);
        Check.due("the last word", x.file(3, 2, HIGH), 1);
        Check.due("as many as before", x.size(1), 3);
        Check.due("a new last word", x.file(3, 3, -1), 1);
        Check.due("one more", x.size(1), 4);
        int[] due = {LOW, 11, HIGH, -1};
        for (int i = 0; i < 4; i++) {
            Check.due("word(1, " + i + ")", x.word(1, i), due[i]);
        }
        x = Worlds.directory(1).make();
        Check.due("what is named 0 in a directory is not in the root", x.file(0, 0, 5), 4);
        Check.due("it stays empty", x.size(3), 0);
        x = Worlds.files(1).program(0, Asm.open(0, 0), Asm.set(1, 0), Asm.remove(1)).turns(1).make();
        Check.due("an open file without entry has no name", x.file(0, 0, 5), 3);
        Check.due("it stays as it was", x.word(1, 0), 100);
        x = Worlds.files(1).program(0, Asm.open(0, 2)).turns(1).make();
        Check.due("an emptied file has word 0 as its new last one", x.file(0, 0, 5), 1);
        Check.due("and has no other", x.size(1), 1);
    }

    private static void fileNamesAndNumbers() {
        Check.sentence("Tested in this order: name outside 0..14 or i outside 0..19: BAD;");
        for (int name : new int[] {0, 14}) {
            Check.due("file(" + name + ", 0, 7)", new UnixPersonality().file(name, 0, 7), 1);
        }
        for (int name : new int[] {-1, 15, 16, LOW, HIGH}) {
            Twin.refused("file(" + name + ", 0, 7)", counting(), x -> x.file(name, 0, 7));
        }
        UnixPersonality y = counting().file(2, new int[19]).make();
        Check.due("word 19", y.file(2, 19, 55), 2);
        Check.due("word 19 is there", y.word(2, 19), 55);
        Check.due("word 0", y.file(2, 0, 66), 2);
        Check.due("word 0 is there", y.word(2, 0), 66);
        Run full = counting().file(2, new int[20]);
        for (int i : new int[] {-1, 20, 21, LOW, HIGH}) {
            Twin.refused("file(2, " + i + ", 7) with 20 words", full, x -> x.file(2, i, 7));
            Twin.refused("file(3, " + i + ", 7) with no file", full, x -> x.file(3, i, 7));
        }
    }

    private static void fileOfADirectory() {
        Check.sentence("there is a directory with that name: BAD;");
        for (int i : new int[] {0, 1, 2}) {
            Twin.refused("file(11, " + i + ", 7) of a directory", Worlds.directory(1), x -> x.file(11, i, 7));
        }
        Check.due("a file of the root", Worlds.directory(1).make().file(10, 0, 7), 1);
    }

    private static void fileWithoutRoom() {
        Check.sentence("there is nothing with it, and no node is free or 6 entries are there: BAD;");
        Check.due("9 nodes taken", Worlds.nested(7).make().file(0, 0, 7), 9);
        Twin.refused("file(0, 0, 7) with 10 nodes taken", Worlds.nested(8), x -> x.file(0, 0, 7));
        Check.due("10 nodes taken, a file that is there", Worlds.nested(8).make().file(10, 6, 7), 1);
        Check.due("5 entries", Worlds.files(5).make().file(5, 0, 7), 6);
        Twin.refused("file(6, 0, 7) with 6 entries", Worlds.files(6), x -> x.file(6, 0, 7));
        UnixPersonality y = Worlds.files(6).make();
        Check.due("6 entries, a file that is there", y.file(5, 1, 7), 6);
        Check.due("it has the word", y.word(6, 1), 7);
    }

    private static void fileAboveItsWords() {
        Check.sentence("i is above the number of its words (0 for a new one): BAD.");
        Run three = counting().file(2, 5, 6, 7);
        Check.due("3 words, word 3", three.make().file(2, 3, 9), 2);
        for (int i : new int[] {4, 5, 19}) {
            Twin.refused("file(2, " + i + ", 9) with 3 words", three, x -> x.file(2, i, 9));
        }
        Check.due("a new one, word 0", three.make().file(4, 0, 9), 3);
        for (int i : new int[] {1, 19}) {
            Twin.refused("file(4, " + i + ", 9) with no file", three, x -> x.file(4, i, 9));
        }
        Run emptied = Worlds.files(1).program(0, Asm.open(0, 2)).turns(1);
        Twin.refused("file(0, 1, 9) with an emptied file", emptied, x -> x.file(0, 1, 9));
        Check.sentence("Then nothing happens. Else answers the node.");
        // A node that a refused call had taken would show here.
        UnixPersonality y = three.make();
        for (int[] c : new int[][] {{-1, 0}, {15, 0}, {4, -1}, {4, 20}, {4, 1}, {2, 4}}) {
            Check.due("file(" + c[0] + ", " + c[1] + ", 9)", y.file(c[0], c[1], 9), BAD);
        }
        Check.due("the node of an old one", y.file(2, 0, 9), 2);
        Check.due("the node of a new one", y.file(4, 0, 9), 3);
    }

    private static void spawnBecomes() {
        Check.sentence("The smallest free process becomes ready, without parent, with the words of the file of that name in the"
            + " root as its program, spot 0, register 0 = x, the others 0, the root as its place, descriptors nothing; it joins"
            + " the queue.");
        Run odd = new Run().file(0, Asm.jumpIfZero(0, 2), Asm.jump(1), Asm.end(0))
            .spawn(0, 1).spawn(0, 0).spawn(0, 1).spawn(0, 0).spawn(0, 1).turns(5);
        UnixPersonality x = odd.make();
        Check.due("1 and 3 are free, the smallest", x.spawn(0, 5), 1);
        Check.due("1 and 3 are free, the other", x.spawn(0, LOW), 3);
        Check.due("ready", x.state(3), READY);
        Check.due("spot 0", x.spot(3), 0);
        Check.due("register 0", x.register(3, 0), LOW);
        // 0 has taken its child 1 and waits for another: the new 1 is none, and is free when it ends.
        x = new Run().file(12, Asm.nothing(), Asm.end(0)).file(13, Asm.fork(1), Asm.addNumber(1, 1), Asm.jumpIfZero(1, 7),
            Asm.await(1, 2), Asm.yieldTurn(), Asm.await(2, 3), Asm.jump(6), Asm.end(0)).spawn(13, 0).turns(3).make();
        Check.due("the child is free", x.state(1), FREE);
        Check.due("the parent is behind its YIELD", x.spot(0), 5);
        Check.due("its number is taken again", x.spawn(12, 0), 1);
        x.run(1);
        Check.due("it is no child", x.register(0, 2), -1);
        x.run(1);
        Check.due("it is free when it ends", x.state(1), FREE);
        used();
        // The queue: 0 and 1, then 2.
        x = new Run().file(0, Asm.out(0), Asm.nothing(), Asm.nothing(), Asm.jump(0)).spawn(0, 5).spawn(0, 6).turns(1)
            .spawn(0, 7).turns(3).make();
        int[] due = {5, 6, 5, 7};
        for (int k = 0; k < 4; k++) {
            Check.due("the queue, output(" + k + ")", x.output(k), due[k]);
        }
    }

    /** A process number whose last process has left something everywhere is as new. */
    private static void used() {
        Run one = Worlds.nested(1).file(0, Asm.go(0), Asm.set(1, 10), Asm.set(2, 20), Asm.set(3, 30), Asm.pipe(0, 1), Asm.pipe(0, 1),
            Asm.jump(7)).file(1, Asm.nothing(), Asm.set(1, 3), Asm.make(1), Asm.jump(3)).spawn(0, 11).turns(3)
            .file(2, Asm.kill(0), Asm.end(0)).spawn(2, 0).turns(2);
        UnixPersonality x = one.make();
        Check.due("killed", x.state(0), FREE);
        Check.due("anew", x.spawn(1, 9), 0);
        int[] due = {9, 0, 0, 0};
        for (int i = 0; i < 4; i++) {
            Check.due("register(0, " + i + ")", x.register(0, i), due[i]);
            Check.due("descriptor(0, " + i + ")", x.descriptor(0, i), 0);
        }
        x.run(2);
        Check.due("its place is the root", x.entry(0, 3) > 0, true);
        Check.due("its place is not the last one's", x.size(2), 0);
    }

    private static void spawnRefused() {
        Check.sentence("No process is free, or there is no such file: BAD. Else answers its number.");
        Run four = counting().spawn(13, 1).spawn(13, 2).spawn(13, 3);
        Check.due("the fifth", four.make().spawn(13, 4), 4);
        Twin.refused("spawn of a sixth", four.spawn(13, 4), x -> x.spawn(13, 5));
        UnixPersonality y = allStates().make();
        Check.due("an ended one is not free, 3 is", y.spawn(2, 0), 3);
        Check.due("an ended one is not free", y.spawn(2, 0), BAD);
        Check.due("it stays ended", y.spot(1), 77);
        for (int name : new int[] {0, 14}) {
            Check.due("spawn(" + name + ", 0)", new Run().file(name, 1).make().spawn(name, 0), 0);
            Twin.refused("spawn(" + name + ", 0) of nothing", counting(), x -> x.spawn(name, 0));
        }
        for (int name : new int[] {-1, 15, 16, LOW, HIGH}) {
            Twin.refused("spawn(" + name + ", 0)", counting(), x -> x.spawn(name, 0));
        }
        Twin.refused("spawn of a directory", Worlds.nested(1), x -> x.spawn(11, 0));
        Twin.refused("spawn of a file that only a directory has", Worlds.directory(1), x -> x.spawn(0, 0));
        y = Worlds.files(1).program(0, Asm.open(0, 2)).turns(1).make();
        Check.due("an empty file is a file", y.spawn(0, 3), 1);
        Check.due("its process is ready", y.state(1), READY);
        long before = y.executed();
        y.run(2);
        Check.due("it ends at once", y.state(1), FREE);
        Check.due("that counts as one", y.executed(), before + 3 + 1);
    }

    private static void run() {
        Check.sentence("Up to n turns, n clamped into 0..80, as long as there are any; answers how many.");
        int[][] cases = {{LOW, 0}, {-1, 0}, {0, 0}, {1, 1}, {2, 2}, {79, 79}, {80, 80}, {81, 80}, {HIGH, 80}};
        for (int[] c : cases) {
            UnixPersonality x = counting().make();
            Check.due("run(" + c[0] + ")", x.run(c[0]), c[1]);
            Check.due("3 instructions a turn", x.executed(), 3L * c[1]);
        }
        // In turn 3 the only process ends; run then answers less than it was asked for.
        int[][] until = {{1, 1}, {2, 2}, {3, 3}, {4, 3}, {80, 3}};
        for (int[] c : until) {
            UnixPersonality x = new Run().file(0, 1, 1, 1, 1, 1, 1, 1, 0).spawn(0, 0).make();
            Check.due("3 turns are there, run(" + c[0] + ")", x.run(c[0]), c[1]);
            Check.due("then run(80)", x.run(80), 3 - c[1]);
        }
        Check.due("a new object has none", new UnixPersonality().run(80), 0);
        // The parent waits, its child has just ended: only a turn wakes the parent.
        Run due = new Run().file(0, Asm.fork(1), Asm.addNumber(1, 1), Asm.jumpIfZero(1, 5), Asm.await(1, 2), Asm.jump(4),
            Asm.nothing(), Asm.nothing(), Asm.nothing(), Asm.end(0)).spawn(0, 8).turns(4);
        Check.due("the parent waits", due.make().state(0), WAITING);
        Check.due("the child has ended", due.make().state(1), ENDED);
        for (int n : new int[] {0, -1, LOW}) {
            Twin.same("run(" + n + ") does nothing", due.turns(n), due);
        }
        Check.due("run(1) is a turn", due.make().run(1), 1);
        // Only waiting ones: there is no turn, and nothing happens.
        Run stuck = new Run().file(0, Asm.pipe(0, 1), Asm.read(2, 0)).spawn(0, 0).turns(1);
        Check.due("only a waiting one", stuck.make().run(80), 0);
        Twin.same("run(80) without a turn", stuck.turns(80), stuck);
    }

    private static void stateAndSpot() {
        Check.sentence("FREE, READY, WAITING or ENDED; BAD for p outside 0..4.");
        UnixPersonality x = allStates().make();
        int[] states = {READY, ENDED, WAITING, FREE, READY};
        int[] spots = {3, 77, 3, BAD, 3};
        for (int p = 0; p < 5; p++) {
            Check.due("state(" + p + ")", x.state(p), states[p]);
        }
        for (int p : new int[] {-1, 5, LOW, HIGH}) {
            Check.due("state(" + p + ")", x.state(p), BAD);
        }
        Check.sentence("The result of an ended process, the spot of a ready or waiting one; BAD else.");
        for (int p = 0; p < 5; p++) {
            Check.due("spot(" + p + ")", x.spot(p), spots[p]);
        }
        for (int p : new int[] {-1, 5, LOW, HIGH}) {
            Check.due("spot(" + p + ")", x.spot(p), BAD);
        }
        Check.due("spot of one that never was", new UnixPersonality().spot(0), BAD);
    }

    private static void register() {
        Check.sentence("Register r of a ready or waiting process; 0 else, and for r outside 0..3.");
        UnixPersonality x = allStates().make();
        int[][] due = {{6, 2, 0, 0}, {0, 0, 0, 0}, {0, 5, 1, 8}, {0, 0, 0, 0}, {7, 0, 0, 9}};
        for (int p = 0; p < 5; p++) {
            for (int r = 0; r < 4; r++) {
                Check.due("register(" + p + ", " + r + ")", x.register(p, r), due[p][r]);
            }
            for (int r : new int[] {-1, 4, LOW, HIGH}) {
                Check.due("register(" + p + ", " + r + ")", x.register(p, r), 0);
            }
        }
        for (int p : new int[] {-1, 5, LOW, HIGH}) {
            for (int r = -1; r < 5; r++) {
                Check.due("register(" + p + ", " + r + ")", x.register(p, r), 0);
            }
        }
    }

    private static void descriptor() {
        Check.sentence("Descriptor d of a ready or waiting process: 1 + 16 * position + 512 * opening for an opening, 4096 + pipe"
            + " for a reading end, 8192 + pipe for a writing end, 0 for nothing, and else.");
        UnixPersonality x = allStates().make();
        int[][] due = {{0, 0, 0, 0}, {0, 0, 0, 0}, {4096, 8192, 0, 0}, {0, 0, 0, 0}, {1, 0, 0, 0}};
        for (int p = 0; p < 5; p++) {
            for (int d = 0; d < 4; d++) {
                Check.due("descriptor(" + p + ", " + d + ")", x.descriptor(p, d), due[p][d]);
            }
            for (int d : new int[] {-1, 4, LOW, HIGH}) {
                Check.due("descriptor(" + p + ", " + d + ")", x.descriptor(p, d), 0);
            }
        }
        for (int p : new int[] {-1, 5, LOW, HIGH}) {
            for (int d = -1; d < 5; d++) {
                Check.due("descriptor(" + p + ", " + d + ")", x.descriptor(p, d), 0);
            }
        }
        // The greatest opening at the greatest position: four of process 0, then four of process 1, all of a file of 20 words.
        x = new Run().file(0, 0, 1, 2, 3, 4, 5, 6, 7, 8, 9, 10, 11, 12, 13, 14, 15, 16, 17, 18, 19)
            .file(1, Asm.set(0, 0), Asm.open(0, 3), Asm.addNumber(1, 1), Asm.addNumber(0, -3), Asm.jumpIfNotZero(0, 0), Asm.jump(5))
            .spawn(1, 0).turns(8).spawn(1, 0).turns(16).make();
        Check.due("descriptor(0, 0)", x.descriptor(0, 0), 1 + 16 * 20);
        Check.due("descriptor(1, 3)", x.descriptor(1, 3), 1 + 16 * 20 + 512 * 7);
        // Both pipes, in the last two descriptors as well.
        x = new Run().file(1, Asm.pipe(0, 1), Asm.pipe(0, 1), Asm.jump(2)).spawn(1, 0).turns(1).make();
        int[] ends = {4096, 8192, 4097, 8193};
        for (int d = 0; d < 4; d++) {
            Check.due("descriptor(0, " + d + ")", x.descriptor(0, d), ends[d]);
        }
    }

    private static void entry() {
        Check.sentence("The node that a directory's entry of a name has (name 15: its parent). node is no directory, or name"
            + " outside 0..15: BAD; there is none: -1.");
        // Node 9 is a directory in 8; node 1 is a file.
        UnixPersonality x = Worlds.nested(8).make();
        Check.due("entry(0, 15)", x.entry(0, 15), 0);
        Check.due("entry(8, 15)", x.entry(8, 15), 7);
        Check.due("entry(9, 15)", x.entry(9, 15), 8);
        Check.due("entry(8, 11)", x.entry(8, 11), 9);
        Check.due("entry(9, 11)", x.entry(9, 11), -1);
        Check.due("entry(0, 11)", x.entry(0, 11), 2);
        for (int name : new int[] {0, 14}) {
            Check.due("entry(9, " + name + ")", x.entry(9, name), -1);
            Check.due("entry(0, " + name + ")", new Run().file(name, 1).make().entry(0, name), 1);
        }
        for (int name : new int[] {-1, 16, LOW, HIGH}) {
            Check.due("entry(0, " + name + ")", x.entry(0, name), BAD);
            Check.due("entry(9, " + name + ")", x.entry(9, name), BAD);
        }
        for (int name : new int[] {-1, 0, 10, 14, 15, 16}) {
            Check.due("entry of a file", x.entry(1, name), BAD);
            Check.due("entry of a free node", Worlds.nested(7).make().entry(9, name), BAD);
            for (int node : new int[] {-1, 10, LOW, HIGH}) {
                Check.due("entry(" + node + ", " + name + ")", x.entry(node, name), BAD);
            }
        }
        x = Worlds.nested(1).program(11, Asm.remove(0)).turns(1).make();
        Check.due("entry of a directory that is gone", x.entry(2, 15), BAD);
    }

    private static void kindAndSize() {
        Check.sentence("0 if a node is free, 1 if it is a file, 2 if it is a directory; BAD for node outside 0..9.");
        UnixPersonality x = Worlds.nested(7).make();
        int[] kinds = {2, 1, 2, 2, 2, 2, 2, 2, 2, 0};
        for (int node = 0; node < 10; node++) {
            Check.due("kind(" + node + ")", x.kind(node), kinds[node]);
        }
        for (int node : new int[] {-1, 10, LOW, HIGH}) {
            Check.due("kind(" + node + ")", x.kind(node), BAD);
        }
        Check.due("kind(9) of a directory", Worlds.nested(8).make().kind(9), 2);
        Check.sentence("The number of words of a file, or of entries of a directory; BAD for a free node or node outside 0..9.");
        int[] sizes = {2, 6, 1, 1, 1, 1, 1, 1, 0, BAD};
        for (int node = 0; node < 10; node++) {
            Check.due("size(" + node + ")", x.size(node), sizes[node]);
        }
        for (int node : new int[] {-1, 10, LOW, HIGH}) {
            Check.due("size(" + node + ")", x.size(node), BAD);
        }
        x = Worlds.directory(6).make();
        Check.due("6 entries", x.size(2), 6);
        Check.due("no words", x.size(3), 0);
        x = new Run().file(0, new int[20]).make();
        Check.due("20 words", x.size(1), 20);
        x = Worlds.files(1).program(0, Asm.remove(0)).turns(1).make();
        Check.due("size of a file that is gone", x.size(1), BAD);
        Check.due("kind of a file that is gone", x.kind(1), 0);
        Check.due("one entry less", x.size(0), 1);
    }

    private static void word() {
        Check.sentence("Word i of a file; 0 if there is none.");
        UnixPersonality x = new Run().file(3, 8, LOW, HIGH).file(4, 5).make();
        int[] due = {8, LOW, HIGH, 0};
        for (int i = 0; i < 4; i++) {
            Check.due("word(1, " + i + ")", x.word(1, i), due[i]);
        }
        for (int i : new int[] {-1, 19, 20, LOW, HIGH}) {
            Check.due("word(1, " + i + ")", x.word(1, i), 0);
            Check.due("word(0, " + i + ") of the root", x.word(0, i), 0);
            Check.due("word(3, " + i + ") of a free node", x.word(3, i), 0);
        }
        for (int node : new int[] {-1, 0, 3, 9, 10, LOW, HIGH}) {
            Check.due("word(" + node + ", 0)", x.word(node, 0), 0);
        }
        x = new Run().file(3, 0, 1, 2, 3, 4, 5, 6, 7, 8, 9, 10, 11, 12, 13, 14, 15, 16, 17, 18, 19).file(4, 77).make();
        Check.due("word(1, 19)", x.word(1, 19), 19);
        Check.due("word(1, 20) is not the next file's", x.word(1, 20), 0);
        Check.due("word(2, -1) is not the last file's", x.word(2, -1), 0);
        // The words of a file that is emptied, removed, or a directory then are none.
        x = Worlds.files(2).program(0, Asm.open(0, 2)).turns(1).make();
        Check.due("an emptied file", x.word(1, 0), 0);
        x = Worlds.files(2).program(0, Asm.remove(0)).turns(1).make();
        Check.due("a file that is gone", x.word(1, 0), 0);
        x = Worlds.files(2).program(0, Asm.remove(0), Asm.make(0)).turns(1).make();
        Check.due("its node is a directory", x.kind(1), 2);
        Check.due("which has no words", x.word(1, 0), 0);
        x = Worlds.nested(7).file(0, 44).make();
        Check.due("word(9, 0)", x.word(9, 0), 44);
    }

    private static void pipe() {
        Check.sentence("The number of words in pipe k; -1 if it is not there; BAD for k outside 0..1.");
        int[] filling = {Asm.pipe(0, 1), Asm.write(0, 1), Asm.write(0, 1), Asm.write(0, 1), Asm.write(0, 1)};
        for (int words = 0; words <= 4; words++) {
            UnixPersonality x = new Run().program(0, Arrays.copyOf(filling, 1 + words)).turns(2).make();
            Check.due("words", x.pipe(0), words);
            Check.due("pipe(1) is not there", x.pipe(1), -1);
            for (int k : new int[] {-1, 2, LOW, HIGH}) {
                Check.due("pipe(" + k + ")", x.pipe(k), BAD);
            }
        }
        UnixPersonality x = new Run().program(0, Asm.pipe(0, 1), Asm.pipe(2, 3), Asm.write(0, 3)).turns(1).make();
        Check.due("pipe(0)", x.pipe(0), 0);
        Check.due("pipe(1)", x.pipe(1), 1);
        int[][] cases = {{0, 0, 1}, {1, 1, 1}, {0, 1, -1}, {1, 0, -1}};
        for (int[] c : cases) {
            x = new Run().program(0, Asm.pipe(0, 1), Asm.write(0, 1), Asm.close(c[0]), c[0] == c[1] ? Asm.nothing() : Asm.close(c[1]))
                .turns(2).make();
            Check.due("with " + c[0] + " and " + c[1] + " closed", x.pipe(0), c[2]);
        }
        for (int d = 2; d < 4; d++) {
            x = new Run().program(0, Asm.pipe(0, 1), Asm.pipe(0, 1), Asm.write(0, 1), Asm.set(2, d), Asm.close(2)).turns(2).make();
            Check.due("pipe(1) with " + d + " closed", x.pipe(1), 1);
            Check.due("pipe(0) as before", x.pipe(0), 0);
        }
    }

    private static void executed() {
        Check.sentence("The number of instructions that all processes have executed (what ends a process counts), as a long.");
        // Each program's first turn, and how many of its instructions are executed there.
        int[][] cases = {
            {3, Asm.nothing(), Asm.nothing(), Asm.nothing(), Asm.nothing()}, {1, Asm.end(0)}, {2, Asm.nothing(), Asm.end(0)},
            {3, Asm.nothing(), Asm.nothing(), Asm.end(0)}, {2, Asm.nothing()}, {3, Asm.nothing(), Asm.nothing()},
            {2, Asm.jump(-1)}, {1, Asm.yieldTurn(), Asm.nothing()}, {2, Asm.nothing(), Asm.yieldTurn(), Asm.nothing()},
            {3, Asm.pipe(0, 1), Asm.close(0), Asm.write(0, 1)}, {1, Asm.pipe(0, 1), Asm.read(2, 0)},
            {3, Asm.close(0), Asm.open(3, 0), Asm.execute(3), Asm.nothing()}, {3, Asm.jump(0)}, {3, Asm.execute(0)},
            {3, Asm.fork(1), Asm.kill(1), Asm.fork(1)},
        };
        for (int[] c : cases) {
            UnixPersonality x = new Run().file(0, Arrays.copyOfRange(c, 1, c.length)).spawn(0, 0).turns(1).make();
            Check.due("the first turn of " + Arrays.toString(c), x.executed(), c[0]);
        }
        UnixPersonality x = counting().spawn(13, 1).spawn(13, 2).make();
        Check.due("nothing yet", x.executed(), 0);
        x.run(3);
        Check.due("of all processes", x.executed(), 9);
        Check.due("asking changes nothing", x.executed(), 9);
        // A process that waits and is woken: only what it executes counts.
        int[] due = {3, 3 + 3, 3 + 3, 3 + 3 + 1, 3 + 3 + 1 + 3};
        for (int turns = 1; turns <= 5; turns++) {
            x = new Run().file(0, Asm.fork(1), Asm.addNumber(1, 1), Asm.jumpIfZero(1, 5), Asm.await(1, 2), Asm.jump(4),
                Asm.nothing(), Asm.end(0)).spawn(0, 8).turns(turns).make();
            Check.due("a waiting parent and its child, after " + turns + " turns", x.executed(), due[turns - 1]);
        }
    }

    private static void output() {
        Check.sentence("The number of ints in the output.");
        int[] around = {0, 1, 31, 32, 33, 70};
        for (int n : around) {
            Check.due("after " + n + " turns, printed()", counting().turns(n).make().printed(), n);
        }
        Check.sentence("Int number k of the output, from 0; 0 if there is none, or k is above 31.");
        for (int n : around) {
            UnixPersonality x = counting().turns(n).make();
            for (int k = 0; k < 34; k++) {
                Check.due("of " + n + ", output(" + k + ")", x.output(k), k < n && k < 32 ? 40 + k : 0);
            }
            for (int k : new int[] {-1, 69, 70, LOW, HIGH}) {
                Check.due("of " + n + ", output(" + k + ")", x.output(k), 0);
            }
        }
    }

    private static void level() {
        Check.sentence("How files are kept: k outside 0..1: refused, answers false. Else true. It shows in no answer.");
        Run world = Worlds.files(2).program(0, Asm.open(0, 1), Asm.set(1, 77), Asm.write(1, 0), Asm.write(1, 0), Asm.set(1, 1),
            Asm.open(1, 2), Asm.write(1, 1), Asm.set(2, 0), Asm.seek(2, 0), Asm.write(2, 0));
        int[][] cases = {{LOW, 0}, {-1, 0}, {0, 1}, {1, 1}, {2, 0}, {HIGH, 0}};
        for (int[] c : cases) {
            for (int turns = 0; turns < 4; turns++) {
                Run then = world.turns(turns);
                Check.due("level(" + c[0] + ")", then.make().level(c[0]), c[1] == 1);
                Twin.same("level(" + c[0] + ") after " + turns + " turns", then.call(x -> x.level(c[0])), then);
                Twin.same("level(0), then level(" + c[0] + ")", then.call(x -> x.level(0)).call(x -> x.level(c[0])), then);
            }
            Twin.same("level(" + c[0] + ") first", new Run().call(x -> x.level(c[0])).file(3, 1, 2), new Run().file(3, 1, 2));
        }
    }

    public static void main(String[] args) {
        newObject();
        fileMakesOrWrites();
        fileNamesAndNumbers();
        fileOfADirectory();
        fileWithoutRoom();
        fileAboveItsWords();
        spawnBecomes();
        spawnRefused();
        run();
        stateAndSpot();
        register();
        descriptor();
        entry();
        kindAndSize();
        word();
        pipe();
        executed();
        output();
        level();
        Check.finish();
    }
}
