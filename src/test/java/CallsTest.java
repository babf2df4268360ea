/** Promises 1 to 17, call by call: ordinary inputs, the edges that the document names, wrong inputs. */
public final class CallsTest {
    private static final int BAD = UnixPersonality.BAD;
    private static final int LOW = Integer.MIN_VALUE;
    private static final int HIGH = Integer.MAX_VALUE;

    private static void promise1NewObject() {
        UnixPersonality x = new UnixPersonality();
        Check.due("1: kind(0)", x.kind(0), 2);
        Check.due("1: size(0)", x.size(0), 0);
        Check.due("1: entry(0, 15)", x.entry(0, 15), 0);
        for (int name = 0; name < 15; name++) {
            Check.due("1: entry(0, " + name + ")", x.entry(0, name), -1);
        }
        for (int node = 1; node < 10; node++) {
            Check.due("1: kind(" + node + ")", x.kind(node), 0);
        }
        for (int p = 0; p < 5; p++) {
            Check.due("1: state(" + p + ")", x.state(p), UnixPersonality.FREE);
        }
        Check.due("1: pipe(0)", x.pipe(0), -1);
        Check.due("1: pipe(1)", x.pipe(1), -1);
        Check.due("1: printed()", x.printed(), 0);
        Check.due("1: output(0)", x.output(0), 0);
        Check.due("1: executed()", x.executed(), 0);
        Check.due("1: run(80)", x.run(80), 0);
    }

    private static void promise2File() {
        UnixPersonality x = new UnixPersonality();
        int[][] wrong = {{-1, 0}, {15, 0}, {LOW, 0}, {HIGH, 0}, {0, -1}, {0, 20}, {0, LOW}, {0, HIGH}, {0, 1}, {0, 19}};
        for (int[] c : wrong) {
            Check.due("2: file(" + c[0] + ", " + c[1] + ", 9)", x.file(c[0], c[1], 9), BAD);
        }
        Check.due("2: refused calls make nothing", x.size(0), 0);
        Check.due("2: nor a node", x.kind(1), 0);
        for (int i = 0; i < 20; i++) {
            Check.due("2: file(14, " + i + ", ..)", x.file(14, i, 100 + i), 1);
        }
        Check.due("2: 20 words", x.size(1), 20);
        Check.due("2: no word 20", x.file(14, 20, 1), BAD);
        Check.due("2: word 7 anew", x.file(14, 7, LOW), 1);
        Check.due("2: is there", x.word(1, 7), LOW);
        Check.due("2: the others stay", x.word(1, 8), 108);
        Check.due("2: still 20 words", x.size(1), 20);
        Check.due("2: a second file", x.file(0, 0, 5), 2);
        Check.due("2: not above its words", x.file(0, 2, 5), BAD);
        Check.due("2: as its last word", x.file(0, 1, 6), 2);
        for (int name = 1; name < 5; name++) {
            Check.due("2: file(" + name + ", 0, 0)", x.file(name, 0, 0), name + 2);
        }
        Check.due("2: a seventh entry", x.file(5, 0, 0), BAD);
        Check.due("2: no node for it", x.kind(7), 0);
        Check.due("2: the sixth still takes words", x.file(4, 1, 8), 6);
    }

    private static void promise2FileWithDirectoriesAndNodes() {
        // A directory 3 in the root, in it one directory in another until no node is free.
        UnixPersonality x = Asm.after(3, Asm.make(0), Asm.go(0), Asm.jump(0));
        Check.due("2: a directory has the name", x.file(3, 0, 1), BAD);
        Check.due("2: the directory stays", x.kind(2), 2);
        x.run(10);
        Check.due("2: node 9 is taken", x.kind(9), 2);
        Check.due("2: no node is free", x.file(4, 0, 1), BAD);
        Check.due("2: though the root has room", x.size(0), 2);
        Check.due("2: a file that is there needs none", x.file(14, 4, 7), 1);
    }

    private static void promise2SmallestFreeNode() {
        UnixPersonality x = new UnixPersonality();
        Asm.load(x, 1, Asm.set(0, 2), Asm.remove(0));
        Asm.load(x, 2, 0);
        Asm.load(x, 3, 0);
        x.spawn(1, 0);
        x.run(1);
        Check.due("2: node 2 is free", x.kind(2), 0);
        Check.due("2: and the smallest", x.file(9, 0, 44), 2);
        Check.due("2: with no words of before", x.size(2), 1);
    }

    private static void promise3Spawn() {
        UnixPersonality x = new UnixPersonality();
        Asm.load(x, 3, Asm.staying());
        for (int name : new int[] {-1, 0, 15, LOW, HIGH}) {
            Check.due("3: spawn(" + name + ", 0)", x.spawn(name, 0), BAD);
        }
        for (int p = 0; p < 5; p++) {
            Check.due("3: spawn(3, ..)", x.spawn(3, 70 + p), p);
            Check.due("3: ready", x.state(p), UnixPersonality.READY);
            Check.due("3: at spot 0", x.spot(p), 0);
            Check.due("3: register 0", x.register(p, 0), 70 + p);
            for (int r = 1; r < 4; r++) {
                Check.due("3: register " + r, x.register(p, r), 0);
            }
            for (int d = 0; d < 4; d++) {
                Check.due("3: descriptor " + d, x.descriptor(p, d), 0);
            }
        }
        Check.due("3: no process is free", x.spawn(3, 0), BAD);
        Check.due("3: nothing is executed yet", x.executed(), 0);
    }

    private static void promise3SpawnOnUsedProcess() {
        // It leaves registers, a place and an opening behind; then the same number is taken again.
        UnixPersonality x = new UnixPersonality();
        Asm.load(x, 1, Asm.set(1, 5), Asm.set(2, 6), Asm.set(3, 2), Asm.open(3, 2), Asm.set(0, 4), Asm.make(0),
            Asm.go(0), Asm.end(0));
        Asm.load(x, 0, Asm.set(0, 6), Asm.make(0), Asm.jump(2));
        x.spawn(1, 0);
        x.run(3);
        Check.due("3: the first is gone", x.state(0), 0);
        Check.due("3: spawn(0, 9)", x.spawn(0, 9), 0);
        for (int r = 0; r < 4; r++) {
            Check.due("3: register anew " + r, x.register(0, r), r == 0 ? 9 : 0);
        }
        Check.due("3: descriptor anew", x.descriptor(0, 0), 0);
        x.run(1);
        Check.due("3: the place is the root", x.entry(0, 6) > 0, true);
        Check.due("3: a directory is no file", x.spawn(6, 0), BAD);
    }

    private static void promise3ProgramIsACopy() {
        UnixPersonality x = new UnixPersonality();
        Asm.load(x, 1, Asm.yieldTurn(), Asm.set(1, 11), Asm.jump(2));
        x.spawn(1, 0);
        x.file(1, 1, Asm.set(1, 22));
        x.run(2);
        Check.due("3: the words as they were", x.register(0, 1), 11);
        x.spawn(1, 0);
        x.run(4);
        Check.due("3: the words as they are", x.register(1, 1), 22);
    }

    private static void promise4Run() {
        UnixPersonality x = Asm.after(0);
        Check.due("4: run(0)", x.run(0), 0);
        Check.due("4: run(-1)", x.run(-1), 0);
        Check.due("4: run(lowest)", x.run(LOW), 0);
        Check.due("4: nothing executed", x.executed(), 0);
        Check.due("4: run(79)", x.run(79), 79);
        Check.due("4: run(80)", x.run(80), 80);
        Check.due("4: run(81)", x.run(81), 80);
        Check.due("4: run(highest)", x.run(HIGH), 80);
        Check.due("4: 3 instructions a turn", x.executed(), 3 * (79 + 80 + 80 + 80));
        UnixPersonality y = new UnixPersonality();
        Asm.load(y, 0, 1, 1, 1, 1);
        y.spawn(0, 0);
        Check.due("4: as long as there are turns", y.run(10), 2);
        Check.due("4: then none", y.run(10), 0);
    }

    private static void promise5StateAnd6Spot() {
        UnixPersonality x = new UnixPersonality();
        // 0 forks 1, which ends with 77, and then jumps about; 2 waits at a pipe.
        Asm.load(x, 0, Asm.fork(1), Asm.jumpIfZero(2, 4), Asm.nothing(), Asm.nothing(), Asm.addNumber(1, 1),
            Asm.jumpIfNotZero(1, 8), Asm.set(2, 77), Asm.end(2), Asm.jump(8));
        Asm.load(x, 1, Asm.pipe(0, 1), Asm.read(2, 0));
        x.spawn(0, 0);
        x.run(8);
        x.spawn(1, 0);
        x.run(3);
        Check.due("5: ready", x.state(0), UnixPersonality.READY);
        Check.due("6: spot", x.spot(0), 8);
        Check.due("5: ended", x.state(1), UnixPersonality.ENDED);
        Check.due("6: result", x.spot(1), 77);
        Check.due("5: waiting", x.state(2), UnixPersonality.WAITING);
        Check.due("6: spot of the waiting", x.spot(2), 1);
        Check.due("5: free", x.state(3), UnixPersonality.FREE);
        Check.due("6: none of the free", x.spot(3), BAD);
        for (int p : new int[] {-1, 5, LOW, HIGH}) {
            Check.due("5: state(" + p + ")", x.state(p), BAD);
            Check.due("6: spot(" + p + ")", x.spot(p), BAD);
        }
        Check.due("7: register of the ended", x.register(1, 2), 0);
        Check.due("7: register of the waiting", x.register(2, 1), 1);
        Check.due("8: descriptor of the waiting", x.descriptor(2, 0), 4096);
        Check.due("6: a negative spot", Asm.after(0, Asm.nothing(), Asm.nothing(), Asm.jump(-5)).spot(0), -5);
        Check.due("6: a spot behind the program", Asm.after(0, Asm.nothing(), Asm.nothing(), Asm.jump(900)).spot(0), 900);
    }

    private static void promise7Register() {
        UnixPersonality x = Asm.after(8, Asm.set(1, 9), Asm.set(2, -9), Asm.set(3, 4194303));
        int[] due = {8, 9, -9, 4194303};
        for (int r = 0; r < 4; r++) {
            Check.due("7: register(0, " + r + ")", x.register(0, r), due[r]);
        }
        for (int r : new int[] {-1, 4, LOW, HIGH}) {
            Check.due("7: register(0, " + r + ")", x.register(0, r), 0);
        }
        for (int p : new int[] {-1, 1, 4, 5, LOW, HIGH}) {
            Check.due("7: register(" + p + ", 0)", x.register(p, 0), 0);
        }
        UnixPersonality y = Asm.after(8, Asm.end(0));
        Check.due("7: of one that is free again", y.register(0, 0), 0);
    }

    private static void promise8Descriptor() {
        // Descriptor 0: file 14 for reading, read twice; 1: the same anew; 2 and 3: a pipe.
        UnixPersonality x = Asm.after(14, Asm.move(1, 0), Asm.open(0, 0), Asm.open(1, 0), Asm.set(0, 0),
            Asm.read(2, 0), Asm.read(2, 0), Asm.set(1, 1), Asm.read(2, 1), Asm.pipe(1, 2));
        Check.due("8: opening 0 at 2", x.descriptor(0, 0), 1 + 32);
        Check.due("8: opening 1 at 1", x.descriptor(0, 1), 1 + 16 + 512);
        Check.due("8: reading end", x.descriptor(0, 2), 4096);
        Check.due("8: writing end", x.descriptor(0, 3), 8192);
        for (int d : new int[] {-1, 4, LOW, HIGH}) {
            Check.due("8: descriptor(0, " + d + ")", x.descriptor(0, d), 0);
        }
        for (int p : new int[] {-1, 1, 5, LOW, HIGH}) {
            Check.due("8: descriptor(" + p + ", 0)", x.descriptor(p, 0), 0);
        }
        UnixPersonality y = Asm.after(0, Asm.pipe(0, 1), Asm.pipe(0, 1));
        Check.due("8: reading end of pipe 1", y.descriptor(0, 2), 4097);
        Check.due("8: writing end of pipe 1", y.descriptor(0, 3), 8193);
    }

    private static void promise9Entry() {
        UnixPersonality x = Asm.after(3, Asm.make(0), Asm.go(0), Asm.set(1, 5), Asm.make(1), Asm.set(1, 14), Asm.open(1, 2));
        Check.due("9: entry(0, 14)", x.entry(0, 14), 1);
        Check.due("9: entry(0, 3)", x.entry(0, 3), 2);
        Check.due("9: entry(2, 5)", x.entry(2, 5), 3);
        Check.due("9: entry(2, 14)", x.entry(2, 14), 4);
        Check.due("9: entry(2, 3)", x.entry(2, 3), -1);
        Check.due("9: entry(3, 0)", x.entry(3, 0), -1);
        Check.due("9: entry(0, 15)", x.entry(0, 15), 0);
        Check.due("9: entry(2, 15)", x.entry(2, 15), 0);
        Check.due("9: entry(3, 15)", x.entry(3, 15), 2);
        for (int name : new int[] {-1, 16, LOW, HIGH}) {
            Check.due("9: entry(0, " + name + ")", x.entry(0, name), BAD);
        }
        for (int node : new int[] {-1, 1, 4, 5, 9, 10, LOW, HIGH}) {
            Check.due("9: entry(" + node + ", 15)", x.entry(node, 15), BAD);
            Check.due("9: entry(" + node + ", 3)", x.entry(node, 3), BAD);
        }
    }

    private static void promise10KindAnd11Size() {
        UnixPersonality x = Asm.after(3, Asm.make(0), Asm.set(1, 4), Asm.open(1, 2), Asm.set(2, 5), Asm.make(2));
        Check.due("10: the root", x.kind(0), 2);
        Check.due("10: a file", x.kind(1), 1);
        Check.due("10: a directory", x.kind(2), 2);
        Check.due("10: a free node", x.kind(5), 0);
        Check.due("11: entries of the root", x.size(0), 4);
        Check.due("11: words of a file", x.size(1), 6);
        Check.due("11: entries of a directory", x.size(2), 0);
        Check.due("11: words of an empty file", x.size(3), 0);
        Check.due("11: a free node", x.size(5), BAD);
        Check.due("11: node 9, free", x.size(9), BAD);
        for (int node : new int[] {-1, 10, LOW, HIGH}) {
            Check.due("10: kind(" + node + ")", x.kind(node), BAD);
            Check.due("11: size(" + node + ")", x.size(node), BAD);
        }
    }

    private static void promise12Word() {
        UnixPersonality x = new UnixPersonality();
        Asm.load(x, 2, HIGH, LOW, 5);
        Check.due("12: word(1, 0)", x.word(1, 0), HIGH);
        Check.due("12: word(1, 1)", x.word(1, 1), LOW);
        Check.due("12: word(1, 2)", x.word(1, 2), 5);
        for (int i : new int[] {-1, 3, 19, 20, LOW, HIGH}) {
            Check.due("12: word(1, " + i + ")", x.word(1, i), 0);
        }
        for (int node : new int[] {-1, 0, 2, 9, 10, LOW, HIGH}) {
            Check.due("12: word(" + node + ", 0)", x.word(node, 0), 0);
        }
        UnixPersonality y = Asm.after(14, Asm.open(0, 2), Asm.nothing(), Asm.nothing());
        Check.due("12: an emptied file's word", y.word(1, 0), 0);
        UnixPersonality z = Asm.after(14, Asm.remove(0), Asm.nothing(), Asm.nothing());
        Check.due("12: a freed file's word", z.word(1, 0), 0);
    }

    private static void promise13Pipe() {
        UnixPersonality x = Asm.after(0, Asm.pipe(0, 1), Asm.write(2, 1), Asm.write(2, 1), Asm.pipe(2, 3), Asm.write(2, 3),
            Asm.close(0));
        Check.due("13: two words", x.pipe(0), 2);
        Check.due("13: one word", x.pipe(1), 1);
        UnixPersonality y = Asm.after(0, Asm.pipe(0, 1), Asm.write(2, 1), Asm.close(1));
        Check.due("13: there by its reading end", y.pipe(0), 1);
        UnixPersonality z = Asm.after(0, Asm.pipe(0, 1), Asm.write(2, 1), Asm.close(0));
        Check.due("13: there by its writing end", z.pipe(0), 1);
        UnixPersonality w = Asm.after(0, Asm.pipe(0, 1), Asm.write(2, 1), Asm.close(0), Asm.close(1));
        Check.due("13: not there", w.pipe(0), -1);
        for (int k : new int[] {-1, 2, LOW, HIGH}) {
            Check.due("13: pipe(" + k + ")", x.pipe(k), BAD);
        }
    }

    private static void promise14Executed() {
        UnixPersonality x = new UnixPersonality();
        Asm.load(x, 0, Asm.nothing(), Asm.end(0));
        Asm.load(x, 1, Asm.nothing());
        Asm.load(x, 2, Asm.pipe(0, 1), Asm.close(0), Asm.write(0, 1));
        Asm.load(x, 3, Asm.pipe(0, 1), Asm.read(0, 0));
        x.spawn(0, 0);
        x.run(5);
        Check.due("14: END counts", x.executed(), 2);
        x.spawn(1, 0);
        x.run(5);
        Check.due("14: the spot outside counts", x.executed(), 4);
        x.spawn(2, 0);
        x.run(5);
        Check.due("14: the WRITE that ends counts", x.executed(), 7);
        x.spawn(3, 0);
        x.run(5);
        Check.due("14: what waits does not", x.executed(), 8);
        Asm.load(x, 4, Asm.kill(0), Asm.jump(1));
        x.spawn(4, 0);
        x.run(1);
        Check.due("14: a KILL counts once", x.executed(), 11);
    }

    private static void promise15PrintedAnd16Output() {
        UnixPersonality x = Asm.after(500, Asm.out(0), Asm.addNumber(0, -1), Asm.jump(0));
        Check.due("15: one", x.printed(), 1);
        Check.due("16: output(0)", x.output(0), 500);
        Check.due("16: output(1)", x.output(1), 0);
        x.run(31);
        Check.due("15: 32", x.printed(), 32);
        Check.due("16: output(31)", x.output(31), 469);
        x.run(2);
        Check.due("15: goes on above 32", x.printed(), 34);
        for (int k = 0; k < 32; k++) {
            Check.due("16: output(" + k + ")", x.output(k), 500 - k);
        }
        for (int k : new int[] {-1, 32, 33, 34, LOW, HIGH}) {
            Check.due("16: output(" + k + ")", x.output(k), 0);
        }
    }

    private static void promise17Level() {
        UnixPersonality x = Asm.after(14, Asm.open(0, 0), Asm.read(2, 0), Asm.nothing());
        for (int k : new int[] {-1, 2, LOW, HIGH}) {
            Check.due("17: level(" + k + ")", x.level(k), false);
        }
        for (int k : new int[] {0, 1, 0, 0, 1, 1}) {
            Check.due("17: level(" + k + ")", x.level(k), true);
            Check.due("17: shows in no size", x.size(1), 4);
            Check.due("17: shows in no word", x.word(1, 1), Asm.read(2, 0));
            Check.due("17: shows in no descriptor", x.descriptor(0, 0), 17);
        }
    }

    public static void main(String[] args) {
        promise1NewObject();
        promise2File();
        promise2FileWithDirectoriesAndNodes();
        promise2SmallestFreeNode();
        promise3Spawn();
        promise3SpawnOnUsedProcess();
        promise3ProgramIsACopy();
        promise4Run();
        promise5StateAnd6Spot();
        promise7Register();
        promise8Descriptor();
        promise9Entry();
        promise10KindAnd11Size();
        promise12Word();
        promise13Pipe();
        promise14Executed();
        promise15PrintedAnd16Output();
        promise17Level();
        Check.finish();
    }
}
