/** The ops of the document's Terms, one by one: what each does, when it fails, and that a failing one does nothing else. */
public final class OpsTest {
    private static final int LOW = Integer.MIN_VALUE;
    private static final int HIGH = Integer.MAX_VALUE;

    private static void registers(String what, UnixPersonality x, int p, int... due) {
        for (int r = 0; r < due.length; r++) {
            Check.due(what + ", register " + r, x.register(p, r), due[r]);
        }
    }

    private static int[] join(int[] first, int... then) {
        int[] all = java.util.Arrays.copyOf(first, first.length + then.length);
        System.arraycopy(then, 0, all, first.length, then.length);
        return all;
    }

    private static void arithmetic() {
        registers("SET", Asm.after(1, Asm.set(0, -4194304), Asm.set(2, 4194303)), 0, -4194304, 0, 4194303, 0);
        registers("MOVE", Asm.after(7, Asm.move(3, 0), Asm.move(0, 1)), 0, 0, 0, 0, 7);
        registers("ADD", Asm.after(7, Asm.set(1, -9), Asm.add(0, 1)), 0, -2, -9, 0, 0);
        registers("ADD to itself", Asm.after(HIGH, Asm.add(0, 0)), 0, -2);
        registers("SUBTRACT", Asm.after(LOW, Asm.set(1, 1), Asm.subtract(0, 1)), 0, HIGH, 1);
        registers("ADD n", Asm.after(HIGH, Asm.addNumber(0, 1)), 0, LOW);
        registers("ADD -n", Asm.after(LOW, Asm.addNumber(0, -1)), 0, HIGH);
        registers("LESS", Asm.after(LOW, Asm.set(1, 1), Asm.less(0, 1)), 0, 1, 1);
        registers("LESS, equal", Asm.after(5, Asm.set(1, 5), Asm.less(0, 1)), 0, 0, 5);
        registers("LESS, greater", Asm.after(HIGH, Asm.set(1, -1), Asm.less(0, 1)), 0, 0, -1);
        registers("nothing", Asm.after(5, Asm.word(29, 0, 1, 3), Asm.word(30, 0, 1, 3), Asm.word(31, 0, 1, 3)), 0, 5, 0, 0, 0);
        registers("its number", Asm.after(5, Asm.number(0)), 0, 0);
        registers("bits above", Asm.after(5, Asm.word(26, 1, 3, -1)), 0, 5, 0, 0, 0);
    }

    private static void jumps() {
        int[] words = {0, Asm.set(1, 1), Asm.jump(2)};
        int[][] cases = {
            {Asm.jumpIfZero(0, 2), 0, 0}, {Asm.jumpIfZero(0, 2), -1, 1},
            {Asm.jumpIfNotZero(0, 2), 0, 1}, {Asm.jumpIfNotZero(0, 2), -1, 0},
            {Asm.jump(2), 0, 0}, {Asm.jump(2), 1, 0},
        };
        for (int[] c : cases) {
            words[0] = c[0];
            registers("JUMP " + c[0] + " with " + c[1], Asm.after(c[1], words), 0, c[1], c[2]);
        }
        UnixPersonality x = Asm.after(0, Asm.nothing(), Asm.nothing(), Asm.jump(-1));
        Check.due("JUMP out, still ready", x.state(0), 1);
        x.run(1);
        Check.due("JUMP out, ended", x.state(0), 0);
        Check.due("JUMP out, executed", x.executed(), 4);
    }

    private static void openModes() {
        int[] file = {Asm.set(0, 5), Asm.open(0, 2), Asm.set(1, 8), Asm.write(1, 0), Asm.write(1, 0), Asm.close(0), Asm.set(0, 5)};
        UnixPersonality x = Asm.after(0, join(file, Asm.open(0, 3), Asm.write(0, 0)));
        Check.due("OPEN 3 begins at the length", x.descriptor(0, 0), 1 + 16 * 3);
        Check.due("OPEN 3 keeps", x.size(2), 3);
        Check.due("OPEN 3 adds", x.word(2, 2), 0);
        x = Asm.after(0, join(file, Asm.open(0, 1), Asm.write(0, 0)));
        Check.due("OPEN 1 begins at 0", x.descriptor(0, 0), 1 + 16);
        Check.due("OPEN 1 keeps", x.size(2), 2);
        Check.due("OPEN 1 overwrites", x.word(2, 0), 0);
        Check.due("OPEN 1 leaves the rest", x.word(2, 1), 8);
        x = Asm.after(0, join(file, Asm.open(0, 2), Asm.nothing()));
        Check.due("OPEN 2 begins at 0", x.descriptor(0, 0), 1);
        Check.due("OPEN 2 empties", x.size(2), 0);
        Check.due("OPEN 2 keeps the node", x.entry(0, 5), 2);
        x = Asm.after(0, join(file, Asm.open(0, 0), Asm.read(2, 0)));
        registers("OPEN 0 reads", x, 0, 0, 8, 8, 1);
        x = Asm.after(0, join(file, Asm.open(0, 0), Asm.write(2, 0)));
        registers("OPEN 0 does not write", x, 0, 0, 8, 0, -1);
        for (int mode = 1; mode < 4; mode++) {
            x = Asm.after(0, join(file, Asm.open(0, mode), Asm.read(2, 0)));
            registers("OPEN " + mode + " does not read", x, 0, 0, 8, 0, -1);
        }
        x = Asm.after(14, Asm.open(0, -4));
        Check.due("OPEN looks at n & 3", x.descriptor(0, 0), 1);
    }

    private static void openFails() {
        for (int mode : new int[] {0, 1, 3}) {
            UnixPersonality x = Asm.after(5, Asm.open(0, mode));
            registers("OPEN " + mode + " of nothing", x, 0, 5, 0, 0, -1);
            Check.due("OPEN makes nothing", x.size(0), 1);
        }
        for (int mode = 0; mode < 4; mode++) {
            registers("OPEN " + mode + " of a directory", Asm.after(5, Asm.make(0), Asm.open(0, mode)), 0, 5, 0, 0, -1);
            for (int name : new int[] {-1, 15, LOW, HIGH}) {
                UnixPersonality x = Asm.after(name, Asm.open(0, mode));
                registers("OPEN " + mode + " of " + name, x, 0, name, 0, 0, -1);
                Check.due("OPEN of no name", x.size(0), 1);
            }
        }
        UnixPersonality x = Asm.after(14, Asm.copy(0, 1), Asm.open(0, 0), Asm.set(1, 0), Asm.copy(2, 1), Asm.copy(2, 1),
            Asm.copy(2, 1), Asm.set(0, 14), Asm.open(0, 2), Asm.nothing());
        registers("OPEN without NEW", x, 0, 14, 0, 3, -1);
        Check.due("OPEN without NEW empties nothing", x.size(1), 10);
        x = Asm.after(0, Asm.pipe(0, 1), Asm.pipe(0, 1), Asm.set(2, 6), Asm.open(2, 2));
        registers("OPEN without NEW", x, 0, 2, 3, 6, -1);
        Check.due("OPEN without NEW makes nothing", x.size(0), 1);
    }

    private static void closeAndCopy() {
        UnixPersonality x = Asm.after(14, Asm.open(0, 0), Asm.copy(1, 0), Asm.read(2, 1), Asm.close(0), Asm.nothing(), Asm.nothing());
        Check.due("CLOSE: nothing", x.descriptor(0, 0), 0);
        Check.due("COPY: one position for both", x.descriptor(0, 1), 17);
        Check.due("COPY: the number", x.register(0, 1), 1);
        Check.due("CLOSE: r3", x.register(0, 3), 1);
        x = Asm.after(14, Asm.open(0, 0), Asm.copy(1, 0), Asm.copy(1, 0), Asm.close(0), Asm.copy(2, 1), Asm.nothing());
        Check.due("COPY takes the smallest", x.register(0, 2), 0);
        Check.due("COPY: the same opening", x.descriptor(0, 0), 1);
        for (int d : new int[] {-1, 0, 3, 4, LOW, HIGH}) {
            registers("CLOSE " + d, Asm.after(d, Asm.close(0)), 0, d, 0, 0, -1);
            registers("COPY " + d, Asm.after(d, Asm.copy(1, 0)), 0, d, 0, 0, -1);
        }
        x = Asm.after(14, Asm.open(0, 0), Asm.close(0), Asm.set(1, 14), Asm.open(1, 3));
        Check.due("the smallest opening anew", x.descriptor(0, 0), 1 + 16 * 5);
        x = Asm.after(14, Asm.open(0, 0), Asm.set(3, 3), Asm.close(0));
        Check.due("CLOSE: rb names the descriptor by its value", x.descriptor(0, 0), 0);
    }

    private static void reading() {
        UnixPersonality x = new UnixPersonality();
        Asm.load(x, 1, 42);
        Asm.load(x, 14, Asm.staying(Asm.set(0, 1), Asm.open(0, 0), Asm.read(3, 0), Asm.yieldTurn(), Asm.read(2, 0)));
        x.spawn(14, 0);
        x.run(1);
        Check.due("READ into r3: the word comes last", x.register(0, 3), 42);
        x.run(2);
        Check.due("READ at the length", x.register(0, 3), 0);
        Check.due("READ at the length leaves ra", x.register(0, 2), 0);
        Check.due("READ at the length leaves the position", x.descriptor(0, 0), 17);
        for (int d : new int[] {-1, 0, 3, 4, LOW, HIGH}) {
            registers("READ " + d, Asm.after(d, Asm.read(1, 0)), 0, d, 0, 0, -1);
            registers("WRITE " + d, Asm.after(d, Asm.write(1, 0)), 0, d, 0, 0, -1);
        }
        registers("READ of a writing end", Asm.after(0, Asm.pipe(0, 1), Asm.read(2, 1)), 0, 0, 1, 0, -1);
        registers("WRITE to a reading end", Asm.after(0, Asm.pipe(0, 1), Asm.write(2, 0)), 0, 0, 1, 0, -1);
    }

    private static void readingAboveTheLength() {
        UnixPersonality x = Asm.after(14, Asm.open(0, 0), Asm.read(1, 0), Asm.set(1, 14), Asm.open(1, 2), Asm.read(2, 0), Asm.nothing());
        registers("READ above the length", x, 0, 0, 1, 0, 0);
        Check.due("the position stays above", x.descriptor(0, 0), 17);
    }

    private static void writing() {
        UnixPersonality x = Asm.after(5, Asm.open(0, 2), Asm.set(3, 9), Asm.write(3, 0), Asm.set(1, 7), Asm.write(1, 0), Asm.nothing());
        Check.due("WRITE of r3: its value before", x.word(2, 0), 9);
        Check.due("WRITE: r3", x.register(0, 3), 1);
        Check.due("WRITE: two words", x.size(2), 2);
        Check.due("WRITE: the position", x.descriptor(0, 0), 33);
        // 20 words and no more.
        x = Asm.after(5, Asm.open(0, 2), Asm.addNumber(1, 1), Asm.write(1, 0), Asm.move(2, 3), Asm.addNumber(2, 1),
            Asm.jumpIfNotZero(2, 1));
        x.run(60);
        Check.due("WRITE: 20 words", x.size(2), 20);
        Check.due("WRITE: the last", x.word(2, 19), 20);
        Check.due("WRITE: fails with 20", x.register(0, 3), -1);
        Check.due("WRITE: the 21st", x.register(0, 1), 21);
        Check.due("WRITE: position 20", x.descriptor(0, 0), 1 + 16 * 20);
        // The second opening empties the file below the first one's position.
        x = Asm.after(5, Asm.open(0, 2), Asm.write(1, 0), Asm.write(1, 0), Asm.set(1, 5), Asm.open(1, 2), Asm.write(1, 1),
            Asm.write(2, 0), Asm.nothing(), Asm.nothing());
        Check.due("WRITE above the length fails", x.register(0, 3), -1);
        Check.due("WRITE above the length writes nothing", x.size(2), 1);
        Check.due("WRITE above the length leaves the position", x.descriptor(0, 0), 33);
    }

    private static void seeking() {
        int[] file = {Asm.set(0, 5), Asm.open(0, 2), Asm.write(0, 0), Asm.write(0, 0), Asm.write(0, 0)};
        int[][] cases = {{0, 1, 1}, {3, 1, 49}, {2, 1, 33}, {4, -1, 49}, {-1, -1, 49}};
        for (int[] c : cases) {
            UnixPersonality x = Asm.after(0, join(file, Asm.set(1, c[0]), Asm.seek(1, 0)));
            Check.due("SEEK to " + c[0], x.register(0, 3), c[1]);
            Check.due("SEEK to " + c[0] + ": the position", x.descriptor(0, 0), c[2]);
        }
        registers("SEEK for reading", Asm.after(14, Asm.open(0, 0), Asm.set(1, 4), Asm.seek(1, 0), Asm.read(2, 0)),
            0, 0, 4, Asm.jump(4), 1);
        registers("SEEK of nothing", Asm.after(2, Asm.seek(1, 0)), 0, 2, 0, 0, -1);
        registers("SEEK of 4", Asm.after(4, Asm.seek(1, 0)), 0, 4, 0, 0, -1);
        registers("SEEK of a reading end", Asm.after(0, Asm.pipe(0, 1), Asm.seek(0, 0)), 0, 0, 1, 0, -1);
        registers("SEEK of a writing end", Asm.after(0, Asm.pipe(0, 1), Asm.seek(0, 1)), 0, 0, 1, 0, -1);
    }

    private static void pipes() {
        UnixPersonality x = Asm.after(0, Asm.pipe(0, 0), Asm.nothing(), Asm.nothing());
        Check.due("PIPE: the second number comes last", x.register(0, 0), 1);
        x = Asm.after(0, Asm.pipe(0, 1), Asm.pipe(2, 3), Asm.close(0), Asm.close(1), Asm.set(0, 7), Asm.set(1, 7), Asm.pipe(0, 1));
        Check.due("PIPE: the smallest that is not there", x.descriptor(0, 0), 4096);
        Check.due("PIPE: its writing end", x.descriptor(0, 1), 8192);
        x = Asm.after(0, Asm.pipe(0, 1), Asm.write(0, 1), Asm.close(0), Asm.close(1), Asm.pipe(0, 1), Asm.nothing());
        Check.due("PIPE: anew without words", x.pipe(0), 0);
        x = Asm.after(0, Asm.pipe(0, 1), Asm.set(2, 5), Asm.write(2, 1), Asm.set(2, 6), Asm.write(2, 1), Asm.read(2, 0),
            Asm.set(3, 9), Asm.write(3, 1), Asm.read(3, 0));
        registers("READ: the first word goes first", x, 0, 0, 1, 5, 6);
        Check.due("READ: the rest stays", x.pipe(0), 1);
        registers("WRITE to a pipe", Asm.after(0, Asm.pipe(0, 1), Asm.write(2, 1)), 0, 0, 1, 0, 1);
        x = Asm.after(0, Asm.pipe(0, 1), Asm.write(2, 1), Asm.set(3, 7), Asm.read(2, 0));
        registers("READ of a pipe", x, 0, 0, 1, 0, 1);
        registers("READ of a file", Asm.after(14, Asm.open(0, 0), Asm.read(2, 0)), 0, 0, 0, Asm.open(0, 0), 1);
        x = Asm.after(0, Asm.pipe(0, 1), Asm.set(2, 5), Asm.write(2, 1), Asm.close(1), Asm.set(2, 0), Asm.read(2, 0));
        registers("READ without writing end", x, 0, 0, 1, 5, 1);
        x = Asm.after(0, Asm.pipe(0, 1), Asm.set(2, 5), Asm.close(1), Asm.read(2, 0));
        registers("READ without writing end or words", x, 0, 0, 1, 5, 0);
        x = Asm.after(0, Asm.pipe(0, 1), Asm.copy(2, 1), Asm.close(1), Asm.read(3, 0));
        Check.due("READ: a copied writing end counts", x.state(0), 2);
        x = Asm.after(0, Asm.pipe(0, 1), Asm.close(1), Asm.copy(2, 0), Asm.copy(2, 0), Asm.set(1, 7), Asm.pipe(1, 2));
        registers("PIPE without a second NEW", x, 0, 0, 7, 2, -1);
        Check.due("PIPE without a second NEW: nothing", x.descriptor(0, 3), 0);
        Check.due("PIPE without a second NEW: no pipe", x.pipe(1), -1);
    }

    private static void directories() {
        UnixPersonality x = Asm.after(5, Asm.make(0), Asm.make(0), Asm.nothing());
        Check.due("MAKE of what is there", x.register(0, 3), -1);
        Check.due("MAKE makes one", x.size(0), 2);
        registers("MAKE of a file's name", Asm.after(14, Asm.make(0)), 0, 14, 0, 0, -1);
        for (int name : new int[] {-1, 15, LOW, HIGH}) {
            UnixPersonality y = Asm.after(name, Asm.make(0));
            registers("MAKE " + name, y, 0, name, 0, 0, -1);
            Check.due("MAKE of no name", y.size(0), 1);
        }
        x = Asm.after(5, Asm.make(0), Asm.go(0), Asm.make(0), Asm.go(0), Asm.set(1, 15), Asm.go(1), Asm.set(1, 6), Asm.make(1),
            Asm.nothing());
        Check.due("GO in, in and back", x.entry(2, 6), 4);
        Check.due("GO: r3", x.register(0, 3), 1);
        for (int name : new int[] {-1, 0, 14, 16, LOW, HIGH}) {
            registers("GO " + name, Asm.after(name, Asm.go(0)), 0, name, 0, 0, -1);
        }
        registers("GO to the parent", Asm.after(15, Asm.go(0)), 0, 15, 0, 0, 1);
        registers("GO to a directory", Asm.after(5, Asm.make(0), Asm.set(3, 7), Asm.go(0)), 0, 5, 0, 0, 1);
        x = Asm.after(15, Asm.go(0), Asm.set(1, 6), Asm.make(1));
        Check.due("GO: the root is its own parent", x.entry(0, 6), 2);
        registers("SIZE of a file", Asm.after(14, Asm.size(0)), 0, 2);
        registers("SIZE of an empty directory", Asm.after(5, Asm.make(0), Asm.size(0)), 0, 0);
        for (int name : new int[] {-1, 0, 15, 16, LOW, HIGH}) {
            registers("SIZE " + name, Asm.after(name, Asm.size(0)), 0, -1, 0, 0, 0);
        }
    }

    private static void linking() {
        UnixPersonality x = Asm.after(14, Asm.set(1, 5), Asm.link(0, 1), Asm.remove(0), Asm.nothing(), Asm.nothing(), Asm.nothing());
        registers("LINK", Asm.after(14, Asm.set(1, 5), Asm.link(0, 1)), 0, 14, 5, 0, 1);
        Check.due("LINK: the same node", x.entry(0, 5), 1);
        Check.due("LINK: the first entry went", x.entry(0, 14), -1);
        Check.due("LINK: the file stays", x.kind(1), 1);
        Check.due("LINK: one entry", x.size(0), 1);
        registers("LINK to its own name", Asm.after(14, Asm.link(0, 0)), 0, 14, 0, 0, -1);
        registers("LINK of a directory", Asm.after(5, Asm.make(0), Asm.set(1, 6), Asm.link(0, 1)), 0, 5, 6, 0, -1);
        registers("LINK of nothing", Asm.after(5, Asm.set(1, 6), Asm.link(0, 1)), 0, 5, 6, 0, -1);
        for (int name : new int[] {-1, 15, 16}) {
            registers("LINK to " + name, Asm.after(14, Asm.set(1, name), Asm.link(0, 1)), 0, 14, name, 0, -1);
            registers("LINK of " + name, Asm.after(name, Asm.set(1, 3), Asm.link(0, 1)), 0, name, 3, 0, -1);
        }
        // Names 0 to 4 beside 14 fill the root.
        x = Asm.after(14, Asm.link(0, 1), Asm.addNumber(1, 1), Asm.jump(0));
        x.run(3);
        Check.due("LINK: 5 entries more", x.size(0), 5);
        x.run(3);
        Check.due("LINK: not above 6", x.size(0), 6);
        Check.due("LINK: fails with 6", x.register(0, 3), -1);
        Check.due("LINK takes no node", x.kind(2), 0);
    }

    private static void removing() {
        for (int name : new int[] {-1, 0, 15, LOW, HIGH}) {
            UnixPersonality x = Asm.after(name, Asm.remove(0));
            registers("REMOVE " + name, x, 0, name, 0, 0, -1);
            Check.due("REMOVE of nothing", x.size(0), 1);
        }
        UnixPersonality x = Asm.after(14, Asm.remove(0));
        Check.due("REMOVE of a file", x.kind(1), 0);
        Check.due("REMOVE: r3", x.register(0, 3), 1);
        x = Asm.after(14, Asm.open(0, 0), Asm.set(1, 14), Asm.remove(1));
        Check.due("REMOVE of an open file: it stays", x.kind(1), 1);
        Check.due("REMOVE of an open file: no entry", x.entry(0, 14), -1);
        x = Asm.after(14, Asm.open(0, 0), Asm.set(1, 14), Asm.remove(1), Asm.close(0), Asm.nothing(), Asm.nothing());
        Check.due("CLOSE of the last opening: free", x.kind(1), 0);
        x = Asm.after(14, Asm.open(0, 0), Asm.copy(1, 0), Asm.set(2, 14), Asm.remove(2), Asm.close(0), Asm.nothing());
        Check.due("CLOSE of one of two: it stays", x.kind(1), 1);
        x = Asm.after(5, Asm.make(0), Asm.remove(0));
        Check.due("REMOVE of a directory", x.kind(2), 0);
        Check.due("REMOVE of a directory: no entry", x.entry(0, 5), -1);
        x = Asm.after(5, Asm.make(0), Asm.go(0), Asm.make(0), Asm.set(1, 15), Asm.go(1), Asm.remove(0));
        Check.due("REMOVE of one with entries", x.register(0, 3), -1);
        Check.due("REMOVE of one with entries: it stays", x.kind(2), 2);
    }

    private static void removingAPlace() {
        UnixPersonality x = new UnixPersonality();
        Asm.load(x, 1, Asm.make(0), Asm.go(0), Asm.jump(2));
        Asm.load(x, 2, Asm.staying(Asm.remove(0)));
        x.spawn(1, 5);
        x.run(1);
        x.spawn(2, 5);
        x.run(2);
        Check.due("REMOVE of a place", x.register(1, 3), -1);
        Check.due("REMOVE of a place: it stays", x.kind(3), 2);
        // The child goes there, ends and is kept as ended: it has no place any more.
        UnixPersonality y = Asm.after(5, Asm.make(0), Asm.fork(1), Asm.addNumber(1, 1), Asm.jumpIfZero(1, 8), Asm.nothing(),
            Asm.nothing(), Asm.remove(0), Asm.jump(7), Asm.go(0), Asm.end(0));
        y.run(4);
        Check.due("an ended one", y.state(1), 3);
        Check.due("REMOVE of what was its place", y.kind(2), 0);
    }

    private static void executing() {
        UnixPersonality x = new UnixPersonality();
        Asm.load(x, 3, Asm.nothing(), Asm.nothing(), Asm.jump(2));
        Asm.load(x, 1, Asm.set(1, 8), Asm.set(2, 3), Asm.execute(2));
        x.spawn(1, 4);
        x.run(1);
        Check.due("EXECUTE: spot 0", x.spot(0), 0);
        registers("EXECUTE keeps registers", x, 0, 4, 8, 3, 0);
        x.run(1);
        Check.due("EXECUTE: the new program", x.spot(0), 2);
        for (int name : new int[] {-1, 0, 15, LOW, HIGH}) {
            registers("EXECUTE " + name, Asm.after(name, Asm.execute(0)), 0, name, 0, 0, -1);
        }
        registers("EXECUTE of a directory", Asm.after(4, Asm.make(0), Asm.execute(0)), 0, 4, 0, 0, -1);
        UnixPersonality y = Asm.after(4, Asm.open(0, 2), Asm.set(0, 4), Asm.execute(0));
        Check.due("EXECUTE of an empty file", y.spot(0), 0);
        Check.due("EXECUTE keeps descriptors", y.descriptor(0, 0), 1);
        y.run(1);
        Check.due("EXECUTE of an empty file ends", y.state(0), 0);
        Check.due("and counts", y.executed(), 4);
    }

    public static void main(String[] args) {
        arithmetic();
        jumps();
        openModes();
        openFails();
        closeAndCopy();
        reading();
        readingAboveTheLength();
        writing();
        seeking();
        pipes();
        directories();
        linking();
        removing();
        removingAPlace();
        executing();
        Check.finish();
    }
}
