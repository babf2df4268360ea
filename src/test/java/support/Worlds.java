/** Beginnings for runs. Where a process has made them, its program stays in the root as 10 (node 1), and it is free again. */
final class Worlds {
    private Worlds() {
    }

    /** Files 0 to n - 1 of one word each, nodes 1 to n. */
    static Run files(int n) {
        Run run = new Run();
        for (int name = 0; name < n; name++) {
            run = run.file(name, 100 + name);
        }
        return run;
    }

    /** n directories, each as 11 in the one before, the first in the root: nodes 2 to n + 1. */
    static Run nested(int n) {
        return new Run().file(10, Asm.set(1, n), Asm.make(0), Asm.go(0), Asm.addNumber(1, -1), Asm.jumpIfNotZero(1, 1),
            Asm.end(0)).spawn(10, 11).turns(80);
    }

    /** A directory, 11 in the root (node 2), with n entries, 1 or more: an empty file (node 3) as 0 to n - 1. */
    static Run directory(int n) {
        return new Run().file(10, Asm.make(0), Asm.go(0), Asm.set(0, 0), Asm.open(0, 2), Asm.addNumber(1, 1), Asm.move(2, 1),
            Asm.addNumber(2, -n), Asm.jumpIfZero(2, 10), Asm.link(0, 1), Asm.jump(4), Asm.end(0)).spawn(10, 11).turns(80);
    }
}
