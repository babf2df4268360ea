/** Words of programs, by the names of the document's ops; a and b are registers, n a number. */
final class Asm {
    private Asm() {
    }

    static int word(int op, int a, int b, int n) {
        return op | a << 5 | b << 7 | n << 9;
    }

    static int end(int a) { return word(0, a, 0, 0); }
    static int set(int a, int n) { return word(1, a, 0, n); }
    static int move(int a, int b) { return word(2, a, b, 0); }
    static int add(int a, int b) { return word(3, a, b, 0); }
    static int subtract(int a, int b) { return word(4, a, b, 0); }
    static int addNumber(int a, int n) { return word(5, a, 0, n); }
    static int less(int a, int b) { return word(6, a, b, 0); }
    static int jumpIfZero(int a, int n) { return word(7, a, 0, n); }
    static int jump(int n) { return word(8, 0, 0, n); }
    static int jumpIfNotZero(int a, int n) { return word(9, a, 0, n); }
    static int fork(int a) { return word(10, a, 0, 0); }
    static int await(int a, int b) { return word(11, a, b, 0); }
    static int execute(int a) { return word(12, a, 0, 0); }
    static int open(int a, int mode) { return word(13, a, 0, mode); }
    static int close(int b) { return word(14, 0, b, 0); }
    static int read(int a, int b) { return word(15, a, b, 0); }
    static int write(int a, int b) { return word(16, a, b, 0); }
    static int pipe(int a, int b) { return word(17, a, b, 0); }
    static int copy(int a, int b) { return word(18, a, b, 0); }
    static int seek(int a, int b) { return word(19, a, b, 0); }
    static int make(int a) { return word(20, a, 0, 0); }
    static int go(int a) { return word(21, a, 0, 0); }
    static int link(int a, int b) { return word(22, a, b, 0); }
    static int remove(int a) { return word(23, a, 0, 0); }
    static int out(int a) { return word(24, a, 0, 0); }
    static int yieldTurn() { return word(25, 0, 0, 0); }
    static int number(int a) { return word(26, a, 0, 0); }
    static int size(int a) { return word(27, a, 0, 0); }
    static int kill(int a) { return word(28, a, 0, 0); }
    static int nothing() { return word(29, 0, 0, 0); }

    /** Puts a program into the root's file of that name. */
    static void load(UnixPersonality x, int name, int... words) {
        for (int i = 0; i < words.length; i++) {
            if (x.file(name, i, words[i]) == UnixPersonality.BAD) {
                throw new IllegalStateException("file " + name + " does not take word " + i);
            }
        }
    }

    /** The program, and behind it a jump to itself, so that the process stays to be looked at. */
    static int[] staying(int... words) {
        int[] all = new int[words.length + 1];
        System.arraycopy(words, 0, all, 0, words.length);
        all[words.length] = jump(words.length);
        return all;
    }

    /** A new object whose process 0 has executed the program, kept in the root as 14 (node 1), and stays. */
    static UnixPersonality after(int x0, int... words) {
        UnixPersonality x = new UnixPersonality();
        load(x, 14, staying(words));
        x.spawn(14, x0);
        x.run((words.length + 2) / 3);
        return x;
    }
}
