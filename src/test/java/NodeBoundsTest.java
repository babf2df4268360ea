/** What the Terms and promise 18 say about files and directories, sentence by sentence: both sides of each boundary. */
public final class NodeBoundsTest {
    private static final int LOW = Integer.MIN_VALUE;
    private static final int HIGH = Integer.MAX_VALUE;
    private static final int[] AT_ONCE = {};
    private static final int[] NO_NAMES = {-1, 15, 16, LOW, HIGH};
    /** Into the directory 11. */
    private static final int[] GO_11 = {Asm.set(1, 11), Asm.go(1)};
    /** Looks around where no descriptor or opening may be left: a new directory shows the place and the next node. */
    private static final int[] MAKE_12 = {Asm.set(0, 12), Asm.make(0)};

    /** The object when the only process of the world has executed the words. */
    private static UnixPersonality after(Run world, int x0, int[] before, int... words) {
        int[] all = Twin.join(before, words);
        return world.program(x0, all).turns((all.length + 2) / 3).make();
    }

    private static void nodes() {
        Check.sentence("NODES, 0 to 9, are FREE, FILES or DIRECTORIES.");
        // The program takes a node, too: node 9 is free with 6 directories, none with 7.
        UnixPersonality x = after(Worlds.nested(6), 3, AT_ONCE, Asm.make(0));
        Check.due("MAKE takes node 9", x.entry(0, 3), 9);
        Check.due("kind(9)", x.kind(9), 2);
        x = after(Worlds.nested(6), 3, AT_ONCE, Asm.open(0, 2));
        Check.due("OPEN by 2 takes node 9", x.entry(0, 3), 9);
        Check.due("kind(9)", x.kind(9), 1);
        Twin.fails("MAKE without a free node", Worlds.nested(7), 3, AT_ONCE, Asm.make(0));
        Twin.fails("OPEN by 2 of nothing without a free node", Worlds.nested(7), 3, AT_ONCE, Asm.open(0, 2));
        x = after(Worlds.nested(7), 14, AT_ONCE, Asm.set(1, 3), Asm.link(0, 1));
        Check.due("LINK takes no node", x.entry(0, 3), 9);
        x = after(Worlds.nested(7), 10, AT_ONCE, Asm.remove(0), Asm.set(1, 3), Asm.make(1));
        Check.due("a node that is free again", x.entry(0, 3), 1);
    }

    private static void words() {
        Check.sentence("A file has a list of up to 20 words, ints.");
        UnixPersonality x = after(new Run().file(0, new int[19]), 0, AT_ONCE, Asm.open(0, 3), Asm.set(1, -5), Asm.write(1, 0));
        Check.due("WRITE of the 20th", x.register(0, 3), 1);
        Check.due("20 words", x.size(1), 20);
        Check.due("the 20th", x.word(1, 19), -5);
        int[] append = {Asm.open(0, 3)};
        Twin.fails("WRITE of a 21st", new Run().file(0, new int[20]).file(1, 6), 0, append, Asm.write(2, 0));
        // The greatest and the smallest int, copied from file to file.
        x = after(new Run().file(0, HIGH, LOW), 0, AT_ONCE, Asm.open(0, 0), Asm.set(1, 5), Asm.open(1, 2), Asm.read(2, 0),
            Asm.write(2, 1), Asm.read(2, 0), Asm.write(2, 1));
        Check.due("the greatest int", x.word(3, 0), HIGH);
        Check.due("the smallest int", x.word(3, 1), LOW);
    }

    private static void entries() {
        Check.sentence("A directory has up to 6 ENTRIES, each a name from 0 to 14 and a node, and a PARENT, a directory;");
        for (int way : new int[] {Asm.make(0), Asm.open(0, 2), Asm.link(2, 0)}) {
            // The root: the program is an entry, too.
            int[] name = {Asm.set(2, 14)};
            UnixPersonality x = after(Worlds.files(4), 7, name, way);
            Check.due("the root's sixth entry, by " + way, x.size(0), 6);
            Check.due("the root's sixth entry is there", x.entry(0, 7) > 0, true);
            Twin.fails("the root's seventh entry, by " + way, Worlds.files(5), 7, name, way);
            // A directory: r2 = 0 names its file.
            x = after(Worlds.directory(5), 7, GO_11, way);
            Check.due("a directory's sixth entry, by " + way, x.size(2), 6);
            Check.due("a directory's sixth entry is there", x.entry(2, 7) > 0, true);
            Twin.fails("a directory's seventh entry, by " + way, Worlds.directory(6), 7, GO_11, way);
            // The place counts, not the root.
            x = after(Worlds.directory(5).file(0, 1).file(1, 1).file(2, 1), 7, GO_11, way);
            Check.due("the root is full", x.size(0), 6);
            Check.due("the place was not, by " + way, x.size(2), 6);
        }
        UnixPersonality x = after(Worlds.files(5), 4, AT_ONCE, Asm.remove(0), Asm.set(0, 7), Asm.make(0));
        Check.due("room again after a REMOVE", x.entry(0, 7), 5);
        // The names 0 and 14; what is no name.
        for (int name : new int[] {0, 14}) {
            Check.due("MAKE " + name, after(Worlds.nested(1), name, GO_11, Asm.make(0)).entry(2, name), 4);
            Check.due("OPEN " + name, after(Worlds.nested(1), name, GO_11, Asm.open(0, 2)).entry(2, name), 4);
        }
        x = after(Worlds.directory(1), 14, GO_11, Asm.link(2, 0), Asm.remove(2), Asm.link(0, 2));
        Check.due("LINK to 14", x.entry(2, 14), 3);
        Check.due("LINK to 0", x.entry(2, 0), 3);
        Check.due("two entries", x.size(2), 2);
        for (int name : NO_NAMES) {
            Twin.fails("MAKE " + name, Worlds.nested(1), name, AT_ONCE, Asm.make(0));
            Twin.fails("OPEN by 2 of " + name, Worlds.nested(1), name, AT_ONCE, Asm.open(0, 2));
            Twin.fails("LINK to " + name, Worlds.nested(1), name, new int[] {Asm.set(1, 14)}, Asm.link(1, 0));
        }
    }

    private static void noNames() {
        Check.sentence("A directory has up to 6 ENTRIES, each a name from 0 to 14 and a node, and a PARENT, a directory;");
        // Two directories, nodes 2 and 3, each with a file as 0 and 14: what is no name in one is not the other one's 0 or 14.
        Run world = Worlds.nested(2).file(9, Asm.set(2, 2), Asm.go(0), Asm.set(1, 0), Asm.open(1, 2), Asm.close(1), Asm.set(3, 14),
            Asm.link(1, 3), Asm.addNumber(2, -1), Asm.jumpIfNotZero(2, 1), Asm.end(0)).spawn(9, 11).turns(80);
        UnixPersonality x = world.make();
        for (int node = 2; node < 4; node++) {
            Check.due("entry(" + node + ", 0)", x.entry(node, 0), node + 3);
            Check.due("entry(" + node + ", 14)", x.entry(node, 14), node + 3);
        }
        int[] inner = {Asm.set(1, 11), Asm.go(1), Asm.go(1)};
        int[] words = {Asm.execute(0), Asm.open(0, 0), Asm.open(0, 2), Asm.link(0, 1), Asm.remove(0), Asm.make(0), Asm.link(2, 0)};
        for (int[] before : new int[][] {GO_11, inner}) {
            int[] chosen = Twin.join(before, new int[] {Asm.set(1, 5)});
            for (int name : NO_NAMES) {
                for (int word : words) {
                    Twin.fails("word " + word + " with " + name, world, name, chosen, word);
                }
                Twin.acts("SIZE " + name, world, name, chosen, Asm.size(0), Asm.set(0, -1));
                if (name != 15) {
                    Twin.fails("GO " + name, world, name, chosen, Asm.go(0));
                }
            }
        }
    }

    private static void root() {
        Check.sentence("node 0 is the ROOT, a directory that is its own parent.");
        UnixPersonality x = after(Worlds.nested(2), 15, AT_ONCE, Asm.go(0), Asm.go(0), Asm.set(1, 3), Asm.make(1));
        Check.due("GO 15 in the root", x.entry(0, 3), 5);
        Check.due("entry(0, 15)", x.entry(0, 15), 0);
        x = after(Worlds.nested(2), 15, GO_11, Asm.go(0), Asm.set(1, 3), Asm.make(1));
        Check.due("GO 15 in a directory of the root", x.entry(0, 3), 5);
        x = after(Worlds.nested(2), 15, GO_11, Asm.go(1), Asm.go(0), Asm.set(1, 3), Asm.make(1));
        Check.due("GO 15 in a directory of that one", x.entry(2, 3), 5);
        Check.due("the place is the new one's parent", x.entry(5, 15), 2);
    }

    private static void links() {
        Check.sentence("An entry may name any file, but every directory other than the root has just one.");
        UnixPersonality x = after(new Run().file(0, 55), 0, AT_ONCE, Asm.set(1, 1), Asm.link(0, 1), Asm.set(2, 2), Asm.link(1, 2),
            Asm.set(1, 3), Asm.link(2, 1), Asm.set(2, 4), Asm.link(0, 2));
        for (int name = 0; name < 5; name++) {
            Check.due("one file as " + name, x.entry(0, name), 1);
        }
        Check.due("6 entries", x.size(0), 6);
        Check.due("no other node", x.kind(3), 0);
        Twin.fails("LINK of a directory", Worlds.nested(1), 11, new int[] {Asm.set(1, 3)}, Asm.link(0, 1));
        Twin.fails("LINK to the parent", Worlds.nested(2), 15, new int[] {Asm.set(1, 11), Asm.go(1), Asm.set(1, 3)}, Asm.link(0, 1));
    }

    private static void lostFiles() {
        Check.sentence("A file that no entry names and no opening has is free.");
        int[] link = {Asm.set(1, 5), Asm.link(0, 1), Asm.remove(0)};
        UnixPersonality x = after(Worlds.files(1), 0, AT_ONCE, Asm.remove(0));
        Check.due("its only entry went", x.kind(1), 0);
        x = after(Worlds.files(1), 0, link);
        Check.due("one of two entries went", x.kind(1), 1);
        Check.due("it keeps its word", x.word(1, 0), 100);
        x = after(Worlds.files(1), 0, link, Asm.remove(1));
        Check.due("both entries went", x.kind(1), 0);
        int[] open = {Asm.open(0, 0), Asm.set(1, 0), Asm.remove(1)};
        x = after(Worlds.files(1), 0, open);
        Check.due("an opening has it", x.kind(1), 1);
        Check.due("it keeps its word", x.word(1, 0), 100);
        Check.due("no entry has it", x.entry(0, 0), -1);
        x = after(Worlds.files(1), 0, open, Asm.read(2, 0));
        Check.due("it can be read", x.register(0, 2), 100);
        x = after(Worlds.files(1), 0, open, Asm.close(0));
        Check.due("its opening went", x.kind(1), 0);
        x = after(Worlds.files(1), 0, open, Asm.copy(2, 0), Asm.close(0));
        Check.due("a copied descriptor is the opening", x.kind(1), 1);
        x = after(Worlds.files(1), 0, open, Asm.copy(2, 0), Asm.close(0), Asm.close(2));
        Check.due("both descriptors went", x.kind(1), 0);
        x = after(Worlds.files(1), 0, AT_ONCE, Asm.open(0, 0), Asm.set(1, 0), Asm.open(1, 0), Asm.set(2, 0), Asm.remove(2),
            Asm.close(0));
        Check.due("one of two openings went", x.kind(1), 1);
        x = after(Worlds.files(1), 0, AT_ONCE, Asm.open(0, 0), Asm.set(1, 0), Asm.open(1, 0), Asm.set(2, 0), Asm.remove(2),
            Asm.close(0), Asm.close(1));
        Check.due("both openings went", x.kind(1), 0);
        x = after(Worlds.files(1), 0, AT_ONCE, Asm.open(0, 0), Asm.close(0));
        Check.due("an entry has it, its opening went", x.kind(1), 1);
        x = after(Worlds.files(1), 0, AT_ONCE, Asm.open(0, 2));
        Check.due("an empty file is not free", x.kind(1), 1);
        Check.due("its words are none", x.size(1), 0);
    }

    private static void lostFilesOfOthers() {
        Check.sentence("(A file may become free when an entry or an opening goes; this comes last.)");
        // 0 opens and removes the file and forks; both have the opening, until 0 has closed it and 1 has ended.
        Run both = Worlds.files(1).file(14, Asm.open(0, 0), Asm.set(1, 0), Asm.remove(1), Asm.fork(2), Asm.addNumber(2, 1),
            Asm.jumpIfZero(2, 8), Asm.close(0), Asm.jump(7), Asm.nothing(), Asm.nothing(), Asm.nothing(), Asm.nothing(), Asm.end(0))
            .spawn(14, 0);
        for (int turns = 1; turns <= 7; turns++) {
            Check.due("after " + turns + " turns", both.turns(turns).make().kind(1), turns < 7 ? 1 : 0);
        }
        Check.due("0 has closed it before", both.turns(4).make().descriptor(0, 0), 0);
        Check.due("1 has ended then", both.turns(7).make().state(1), 3);
        // The same, but 1 is killed before it ends.
        UnixPersonality x = both.turns(4).file(13, Asm.kill(0), Asm.jump(1)).spawn(13, 1).turns(3).make();
        Check.due("1 was killed", x.spot(1), -3);
        Check.due("the file is free", x.kind(1), 0);
        // A process's program stays although its file is free.
        x = after(new Run(), 14, AT_ONCE, Asm.remove(0), Asm.nothing(), Asm.nothing(), Asm.set(1, 8));
        Check.due("the program's file is free", x.kind(1), 0);
        Check.due("the program goes on", x.register(0, 1), 8);
        // An END that lets go of two files, one of them with an entry.
        x = Worlds.files(2).file(14, Asm.open(0, 0), Asm.set(1, 1), Asm.open(1, 0), Asm.set(2, 0), Asm.remove(2), Asm.end(0))
            .spawn(14, 0).turns(2).make();
        Check.due("END: the one without an entry", x.kind(1), 0);
        Check.due("END: the one with an entry", x.kind(2), 1);
    }

    private static void execute() {
        Check.sentence("12 EXECUTE: the program becomes the words of the file named ra in its place, and the spot 0; it fails if"
            + " there is no such file");
        Run one = new Run().file(0, Asm.set(2, 6));
        UnixPersonality x = one.program(0, Asm.nothing(), Asm.nothing(), Asm.execute(0)).turns(1).make();
        Check.due("the spot is 0", x.spot(0), 0);
        Check.due("r3 stays", x.register(0, 3), 0);
        x = one.program(0, Asm.nothing(), Asm.execute(0)).turns(1).make();
        Check.due("the new program's word 0", x.register(0, 2), 6);
        x.run(1);
        Check.due("it is shorter than the old one: outside", x.state(0), 0);
        Check.due("executed", x.executed(), 4);
        x = new Run().file(0, new int[] {1, 1, 1, 1, 1, 1, 1, 1, 1, 1, 1, 1, 1, 1, 1, 1, 1, 1, 1, Asm.jump(19)})
            .program(0, Asm.execute(0)).turns(8).make();
        Check.due("a program of 20 words has word 19", x.spot(0), 19);
        x = Worlds.directory(1).file(0, Asm.jump(0)).program(0, Twin.join(GO_11, new int[] {Asm.execute(2)})).turns(1).make();
        Check.due("an empty file", x.spot(0), 0);
        x.run(1);
        Check.due("in its place, not in the root", x.state(0), 0);
        Twin.fails("EXECUTE of nothing", one, 1, AT_ONCE, Asm.execute(0));
        Twin.fails("EXECUTE of a directory", Worlds.nested(1), 11, AT_ONCE, Asm.execute(0));
        Twin.fails("EXECUTE of what only the root has", Worlds.nested(1), 14, GO_11, Asm.execute(0));
        for (int name : NO_NAMES) {
            Twin.fails("EXECUTE " + name, Worlds.nested(1), name, AT_ONCE, Asm.execute(0));
        }
        Check.sentence("EXECUTE that fails: the spot is 1 more, as after any other instruction that fails.");
        x = new Run().program(3, Asm.nothing(), Asm.nothing(), Asm.execute(0), Asm.nothing()).turns(1).make();
        Check.due("EXECUTE that fails", x.spot(0), 3);
        x = new Run().program(3, Asm.nothing(), Asm.nothing(), Asm.go(0), Asm.nothing()).turns(1).make();
        Check.due("GO that fails", x.spot(0), 3);
    }

    private static void openFor() {
        Check.sentence("13 OPEN what is named ra in its place, by n & 3: 0 for reading, 1 for writing, position 0;");
        int[][] numbers = {{0, 0}, {4, 0}, {-4, 0}, {-4194304, 0}, {1, 1}, {5, 1}, {-3, 1}, {2, 2}, {-2, 2}, {3, 3}, {-1, 3},
            {4194303, 3}};
        for (int[] c : numbers) {
            UnixPersonality x = after(new Run().file(0, 7, 8), 0, AT_ONCE, Asm.open(0, c[0]), Asm.read(1, 0), Asm.write(2, 0));
            String what = "OPEN by " + c[0];
            Check.due(what + ": reads", x.register(0, 1), c[1] == 0 ? 7 : 0);
            Check.due(what + ": writes", x.register(0, 3), c[1] == 0 ? -1 : 1);
            Check.due(what + ": the size", x.size(1), c[1] == 3 ? 3 : c[1] == 2 ? 1 : 2);
            Check.due(what + ": the position then", x.descriptor(0, 0), c[1] == 3 ? 49 : 17);
        }
        UnixPersonality x = after(Worlds.directory(1).file(0, 5, 6), 0, GO_11, Asm.open(0, 3));
        Check.due("in its place, not in the root", x.descriptor(0, 0), 1);
        Check.sentence("2 for writing, after the file has been emptied, or if there is none named so a new file (the smallest"
            + " free node) has been entered;");
        int[] twice = {Asm.open(0, 0), Asm.read(1, 0), Asm.set(1, 0)};
        x = after(new Run().file(0, 7, 8, 9), 0, twice, Asm.open(1, 2));
        Check.due("emptied", x.size(1), 0);
        Check.due("its node stays", x.entry(0, 0), 1);
        Check.due("position 0", x.descriptor(0, 1), 1 + 512);
        Check.due("another one's position stays", x.descriptor(0, 0), 1 + 16);
        x = after(new Run().file(0, 7, 8, 9), 0, twice, Asm.open(1, 2), Asm.set(2, 4), Asm.write(2, 1));
        Check.due("one word then", x.size(1), 1);
        Check.due("the new one", x.word(1, 0), 4);
        Check.due("no old one", x.word(1, 1), 0);
        x = after(Worlds.files(4), 1, AT_ONCE, Asm.remove(0), Asm.set(0, 2), Asm.remove(0), Asm.set(0, 9), Asm.open(0, 2));
        Check.due("the smallest free node", x.entry(0, 9), 2);
        Check.due("a file", x.kind(2), 1);
        Check.due("without words", x.size(2), 0);
        Check.due("no old one", x.word(2, 0), 0);
        Check.due("the other one is still free", x.kind(3), 0);
        Check.sentence("3 for writing, the position being its length.");
        for (int length : new int[] {1, 19, 20}) {
            x = after(new Run().file(0, new int[length]), 0, AT_ONCE, Asm.open(0, 3));
            Check.due("length " + length, x.descriptor(0, 0), 1 + 16 * length);
        }
        x = after(Worlds.directory(1), 0, GO_11, Asm.open(0, 3));
        Check.due("length 0", x.descriptor(0, 0), 1);
    }

    private static void openOfNoFile() {
        Check.sentence("It fails if it is no file (for 2: if there is a directory, ra is no name, no node is free or the place has 6"
            + " entries), if there is no NEW, or all openings are there");
        for (int mode = 0; mode < 4; mode++) {
            Twin.fails("OPEN by " + mode + " of a directory", Worlds.nested(1), 11, AT_ONCE, Asm.open(0, mode));
            for (int name : NO_NAMES) {
                Twin.fails("OPEN by " + mode + " of " + name, Worlds.nested(1), name, AT_ONCE, Asm.open(0, mode));
            }
            if (mode != 2) {
                Twin.fails("OPEN by " + mode + " of nothing", Worlds.nested(1), 5, AT_ONCE, Asm.open(0, mode));
                Twin.fails("OPEN by " + mode + " of what only the root has", Worlds.nested(1), 14, GO_11, Asm.open(0, mode));
            }
            UnixPersonality x = after(Worlds.nested(1), 14, AT_ONCE, Asm.open(0, mode));
            Check.due("OPEN by " + mode + " of a file", x.register(0, 0), 0);
            Check.due("OPEN by " + mode + " of a file: r3 stays", x.register(0, 3), 0);
        }
        Check.due("OPEN by 2 of nothing", after(Worlds.nested(1), 5, AT_ONCE, Asm.open(0, 2)).entry(0, 5), 4);
        Check.due("OPEN by 2 of what only the root has", after(Worlds.nested(1), 14, GO_11, Asm.open(0, 2)).entry(2, 14), 4);
        Twin.fails("OPEN by 2 without a free node", Worlds.nested(7), 5, GO_11, Asm.open(0, 2));
        Twin.fails("OPEN by 2 with 6 entries", Worlds.directory(6), 7, GO_11, Asm.open(0, 2));
        Twin.fails("OPEN into r3", Worlds.nested(1), 0, new int[] {Asm.set(3, 5)}, Asm.open(3, 0));
        Check.due("OPEN into r3 of a file", after(new Run(), 0, AT_ONCE, Asm.set(3, 14), Asm.open(3, 0)).register(0, 3), 0);
    }

    private static void openBy2OfAFile() {
        Check.sentence("OPEN by 2 of a file that is there fails only if there is no NEW or all openings are there: it needs no free"
            + " node and no room in the place.");
        UnixPersonality x = after(Worlds.nested(7), 10, AT_ONCE, Asm.open(0, 2));
        Check.due("no node is free", x.kind(9), 1);
        Check.due("OPEN by 2 without a free node", x.descriptor(0, 0), 1);
        Check.due("it is emptied", x.size(1), 0);
        x = after(Worlds.directory(6), 5, GO_11, Asm.open(0, 2));
        Check.due("OPEN by 2 with 6 entries", x.descriptor(0, 0), 1);
        Check.due("6 entries still", x.size(2), 6);
        // Both: 6 directories and 3 files make 10 nodes with the root, and 2 links fill that.
        x = after(Worlds.nested(6).file(0, 5), 0, AT_ONCE, Asm.set(1, 1), Asm.link(0, 1), Asm.set(1, 2), Asm.link(0, 1), Asm.open(0, 2));
        Check.due("no node is free", x.kind(9), 1);
        Check.due("6 entries", x.size(0), 6);
        Check.due("OPEN by 2 of a file", x.descriptor(0, 0), 1);
        // Each of the two reasons, with nodes and room enough: the file is not emptied.
        int[] four = {Asm.pipe(1, 2), Asm.pipe(1, 2), Asm.set(2, 0)};
        Twin.fails("OPEN by 2 without NEW", Worlds.files(1), 0, four, Asm.open(2, 2), MAKE_12);
        Twin.fails("OPEN by 2 of nothing without NEW", Worlds.files(1), 5, four, Asm.open(0, 2), MAKE_12);
        int[] three = {Asm.pipe(1, 2), Asm.copy(2, 1), Asm.set(2, 0)};
        Check.due("OPEN by 2 with one NEW", after(Worlds.files(1), 0, three, Asm.open(2, 2)).size(1), 0);
    }

    private static void make() {
        Check.sentence("20 MAKE a directory: the smallest free node, its parent the place, is entered there as ra; r3 = 1. It fails"
            + " as OPEN does, and if there is something named ra");
        UnixPersonality x = after(Worlds.files(4), 1, AT_ONCE, Asm.remove(0), Asm.set(0, 2), Asm.remove(0), Asm.set(0, 9), Asm.make(0));
        Check.due("the smallest free node", x.entry(0, 9), 2);
        Check.due("a directory", x.kind(2), 2);
        Check.due("without entries", x.size(2), 0);
        Check.due("its parent", x.entry(2, 15), 0);
        Check.due("r3", x.register(0, 3), 1);
        x = after(new Run(), 0, AT_ONCE, Asm.set(3, 7), Asm.make(3));
        Check.due("MAKE by r3", x.entry(0, 7), 2);
        Check.due("then r3", x.register(0, 3), 1);
        Twin.fails("MAKE of a file's name", Worlds.nested(1), 14, AT_ONCE, Asm.make(0));
        Twin.fails("MAKE of a directory's name", Worlds.nested(1), 11, AT_ONCE, Asm.make(0));
        x = after(Worlds.nested(1), 14, GO_11, Asm.make(0));
        Check.due("a name that only the root has", x.entry(2, 14), 4);
        Check.due("its parent is the place", x.entry(4, 15), 2);
        Check.sentence("MAKE fails only if ra is no name, something is named so, no node is free or the place has 6 entries;"
            + " descriptors and openings do not matter.");
        for (int name : NO_NAMES) {
            Twin.fails("MAKE " + name, Worlds.nested(1), name, GO_11, Asm.make(0));
        }
        Twin.fails("MAKE without a free node", Worlds.nested(7), 5, GO_11, Asm.make(0));
        Check.due("MAKE with one", after(Worlds.nested(6), 5, GO_11, Asm.make(0)).entry(2, 5), 9);
        Twin.fails("MAKE with 6 entries", Worlds.directory(6), 7, GO_11, Asm.make(0));
        Check.due("MAKE with 5", after(Worlds.directory(5), 7, GO_11, Asm.make(0)).entry(2, 7), 5);
        x = after(new Run(), 5, AT_ONCE, Asm.pipe(1, 2), Asm.pipe(1, 2), Asm.make(0));
        Check.due("MAKE without NEW", x.entry(0, 5), 2);
        Check.due("MAKE without NEW: r3", x.register(0, 3), 1);
        // Two processes have all 8 openings.
        x = new Run().file(0, Asm.set(0, 0), Asm.open(0, 0), Asm.addNumber(0, -3), Asm.jumpIfNotZero(0, 0), Asm.jump(4))
            .spawn(0, 0).spawn(0, 0).turns(20).program(5, Asm.make(0)).turns(3).make();
        Check.due("the eighth opening", x.descriptor(0, 3) / 512 + x.descriptor(1, 3) / 512, 6 + 7);
        Check.due("MAKE with all openings there", x.entry(0, 5), 3);
        Check.due("MAKE with all openings there: r3", x.register(2, 3), 1);
    }

    private static void go() {
        Check.sentence("21 GO: its place becomes the directory named ra in it, or its parent for ra = 15; r3 = 1");
        for (int name : new int[] {0, 14}) {
            UnixPersonality x = after(Worlds.nested(1), name, GO_11, Asm.make(0), Asm.set(3, 8), Asm.go(0));
            Check.due("GO " + name, x.register(0, 3), 1);
            x = after(Worlds.nested(1), name, GO_11, Asm.make(0), Asm.go(0), Asm.set(2, 5), Asm.make(2));
            Check.due("GO " + name + ": its place", x.entry(4, 5), 5);
        }
        UnixPersonality x = after(Worlds.nested(1), 15, GO_11, Asm.set(3, 8), Asm.go(0));
        Check.due("GO 15", x.register(0, 3), 1);
        x = after(new Run(), 15, AT_ONCE, Asm.set(3, 8), Asm.go(0));
        Check.due("GO 15 in the root", x.register(0, 3), 1);
        Check.due("GO by r3", after(new Run(), 0, AT_ONCE, Asm.set(3, 15), Asm.go(3)).register(0, 3), 1);
        for (int[] before : new int[][] {AT_ONCE, GO_11}) {
            for (int name : new int[] {-1, 0, 5, 16, LOW, HIGH}) {
                Twin.fails("GO " + name, Worlds.nested(2), name, before, Asm.go(0));
            }
        }
        Twin.fails("GO to a file", Worlds.nested(2), 14, AT_ONCE, Asm.go(0));
        Twin.fails("GO to what only the root has", Worlds.nested(1), 11, GO_11, Asm.go(0));
    }

    private static void link() {
        Check.sentence("22 LINK: the file named ra in its place is entered there as rb, too; r3 = 1. It fails if there is something"
            + " named rb, or rb is no name, or the place has 6 entries");
        int[] to5 = {Asm.set(1, 5)};
        UnixPersonality x = after(Worlds.files(1), 0, to5, Asm.link(0, 1));
        Check.due("as rb", x.entry(0, 5), 1);
        Check.due("as ra, too", x.entry(0, 0), 1);
        Check.due("r3", x.register(0, 3), 1);
        Check.due("LINK by r3", after(Worlds.files(1), 0, AT_ONCE, Asm.set(3, 5), Asm.link(0, 3)).entry(0, 5), 1);
        Check.due("LINK of r3", after(Worlds.files(1), 5, AT_ONCE, Asm.set(3, 0), Asm.link(3, 0)).entry(0, 5), 1);
        Twin.fails("LINK to a file's name", Worlds.files(2), 0, new int[] {Asm.set(1, 1)}, Asm.link(0, 1));
        Twin.fails("LINK to its own name", Worlds.files(2), 0, AT_ONCE, Asm.link(0, 0));
        Twin.fails("LINK to a directory's name", Worlds.nested(1), 10, new int[] {Asm.set(1, 11)}, Asm.link(0, 1));
        Twin.fails("LINK of nothing", Worlds.files(2), 3, to5, Asm.link(0, 1));
        Twin.fails("LINK of a directory", Worlds.nested(1), 11, to5, Asm.link(0, 1));
        Twin.fails("LINK of what only the root has", Worlds.nested(1), 14, Twin.join(GO_11, to5), Asm.link(0, 1));
        for (int name : NO_NAMES) {
            Twin.fails("LINK to " + name, Worlds.files(1), name, AT_ONCE, Asm.link(1, 0));
            Twin.fails("LINK of " + name, Worlds.files(1), name, to5, Asm.link(0, 1));
        }
        Twin.fails("LINK with 6 entries", Worlds.files(5), 0, new int[] {Asm.set(1, 7)}, Asm.link(0, 1));
        x = after(Worlds.files(4), 0, AT_ONCE, Asm.set(1, 7), Asm.link(0, 1));
        Check.due("LINK with 5 entries", x.entry(0, 7), 1);
        Check.due("6 entries then", x.size(0), 6);
    }

    private static void removeFile() {
        Check.sentence("23 REMOVE: the entry named ra of its place goes; r3 = 1.");
        for (int name : new int[] {0, 14}) {
            UnixPersonality x = after(Worlds.directory(1), 14, GO_11, Asm.link(2, 0), Asm.set(2, name), Asm.remove(2));
            Check.due("REMOVE " + name, x.entry(2, name), -1);
            Check.due("the other one stays", x.entry(2, 14 - name), 3);
            Check.due("one entry", x.size(2), 1);
            Check.due("r3", x.register(0, 3), 1);
        }
        UnixPersonality x = after(Worlds.nested(1), 0, AT_ONCE, Asm.set(3, 11), Asm.remove(3));
        Check.due("REMOVE by r3", x.kind(2), 0);
        Check.due("then r3", x.register(0, 3), 1);
        Twin.fails("REMOVE of nothing", Worlds.files(2), 5, AT_ONCE, Asm.remove(0));
        Twin.fails("REMOVE of what only the root has", Worlds.nested(1), 14, GO_11, Asm.remove(0));
        Twin.fails("REMOVE of what only a directory has", Worlds.directory(1), 0, AT_ONCE, Asm.remove(0));
        for (int name : NO_NAMES) {
            Twin.fails("REMOVE " + name, Worlds.directory(2), name, AT_ONCE, Asm.remove(0));
            Twin.fails("REMOVE " + name + " in a directory", Worlds.directory(2), name, GO_11, Asm.remove(0));
        }
    }

    private static void removeDirectory() {
        Check.sentence("For a directory it fails if that has entries or is some process's place, and it is free then");
        UnixPersonality x = after(Worlds.nested(1), 11, AT_ONCE, Asm.remove(0));
        Check.due("an empty one", x.register(0, 3), 1);
        Check.due("it is free", x.kind(2), 0);
        Check.due("its entry went", x.entry(0, 11), -1);
        x = after(Worlds.nested(1), 11, AT_ONCE, Asm.remove(0), Asm.set(1, 4), Asm.make(1), Asm.go(1), Asm.make(1));
        Check.due("its node is taken again", x.entry(0, 4), 2);
        Check.due("and has one entry", x.size(2), 1);
        Twin.fails("REMOVE of one with a file", Worlds.directory(1), 11, AT_ONCE, Asm.remove(0));
        Twin.fails("REMOVE of one with 6 entries", Worlds.directory(6), 11, AT_ONCE, Asm.remove(0));
        Twin.fails("REMOVE of one with a directory", Worlds.nested(2), 11, AT_ONCE, Asm.remove(0));
        x = after(Worlds.nested(2), 11, AT_ONCE, Asm.go(0), Asm.remove(0), Asm.set(1, 15), Asm.go(1), Asm.remove(0));
        Check.due("one without entries any more", x.kind(2), 0);
        // Another process is there: ready, waiting, or a child by its parent's place.
        Run ready = Worlds.nested(1).file(13, Asm.go(0), Asm.jump(1)).spawn(13, 11).turns(1);
        Run waiting = Worlds.nested(1).file(13, Asm.go(0), Asm.pipe(1, 2), Asm.read(3, 1)).spawn(13, 11).turns(2);
        Run copied = Worlds.nested(1).file(13, Asm.go(0), Asm.fork(1), Asm.addNumber(1, 1), Asm.jumpIfZero(1, 6), Asm.set(0, 15),
            Asm.go(0), Asm.jump(6)).spawn(13, 11).turns(4);
        Check.due("the waiting one", waiting.make().state(0), 2);
        Twin.fails("REMOVE of a ready one's place", ready, 11, AT_ONCE, Asm.remove(0));
        Twin.fails("REMOVE of a waiting one's place", waiting, 11, AT_ONCE, Asm.remove(0));
        Twin.fails("REMOVE of a forked one's place", copied, 11, AT_ONCE, Asm.remove(0));
        // It was there: it went out, ended as a child, was killed, or is free.
        Run out = Worlds.nested(1).file(13, Asm.go(0), Asm.set(0, 15), Asm.go(0), Asm.jump(3)).spawn(13, 11).turns(1);
        Run ended = Worlds.nested(1).file(13, Asm.fork(1), Asm.addNumber(1, 1), Asm.jumpIfZero(1, 4), Asm.jump(3), Asm.go(0),
            Asm.end(0)).spawn(13, 11).turns(6);
        Run killed = ready.file(12, Asm.kill(0), Asm.end(0)).spawn(12, 0).turns(2);
        Check.due("the ended one", ended.make().state(1), 3);
        for (Run run : new Run[] {out, ended, killed}) {
            x = run.program(11, Asm.remove(0)).turns(4).make();
            Check.due("REMOVE of what was a place", x.entry(0, 11), -1);
            Check.due("it is free", x.kind(2), 0);
        }
    }

    private static void size() {
        Check.sentence("27 SIZE: ra = the number of words, or entries, of what is named ra in its place; -1 if there is none");
        for (int length : new int[] {1, 20}) {
            UnixPersonality x = after(new Run().file(0, new int[length]), 0, AT_ONCE, Asm.size(0));
            Check.due("words", x.register(0, 0), length);
        }
        Check.due("no words", after(Worlds.directory(1), 0, GO_11, Asm.size(0)).register(0, 0), 0);
        Check.due("no entries", after(Worlds.nested(1), 11, AT_ONCE, Asm.size(0)).register(0, 0), 0);
        Check.due("6 entries", after(Worlds.directory(6), 11, AT_ONCE, Asm.size(0)).register(0, 0), 6);
        Check.due("r3 stays", after(Worlds.directory(6), 11, AT_ONCE, Asm.size(0)).register(0, 3), 0);
        Check.due("SIZE into r3", after(Worlds.directory(6), 0, AT_ONCE, Asm.set(3, 11), Asm.size(3)).register(0, 3), 6);
        for (int name : new int[] {-1, 0, 5, 15, 16, LOW, HIGH}) {
            Twin.acts("SIZE " + name + " is -1", Worlds.directory(6), name, AT_ONCE, Asm.size(0), Asm.set(0, -1));
        }
        Twin.acts("SIZE of what only the root has", Worlds.nested(1), 14, GO_11, Asm.size(0), Asm.set(0, -1));
    }

    public static void main(String[] args) {
        nodes();
        words();
        entries();
        noNames();
        root();
        links();
        lostFiles();
        lostFilesOfOthers();
        execute();
        openFor();
        openOfNoFile();
        openBy2OfAFile();
        make();
        go();
        link();
        removeFile();
        removeDirectory();
        size();
        Check.finish();
    }
}
