/** A small Unix: processes whose programs lie in files, directories, openings and pipes. */
public final class UnixPersonality {
    public static final int BAD = -1000000;
    public static final int FREE = 0;
    public static final int READY = 1;
    public static final int WAITING = 2;
    public static final int ENDED = 3;

    private static final int NODES = 10;
    private static final int WORDS = 20;
    private static final int NAMES = 15;
    private static final int ENTRIES = 6;
    private static final int PROCESSES = 5;
    private static final int REGISTERS = 4;
    private static final int DESCRIPTORS = 4;
    private static final int OPENINGS = 8;
    private static final int PIPES = 2;
    private static final int PIPE_WORDS = 4;
    private static final int OUTPUTS = 32;
    private static final int TURN_INSTRUCTIONS = 3;
    private static final int MOST_TURNS = 80;

    // Lengths of the arrays that hold something for each of several owners, one owner's part behind the other's.
    private static final int ALL_WORDS = NODES * WORDS;
    private static final int ALL_NAMES = NODES * NAMES;
    private static final int ALL_PROGRAMS = PROCESSES * WORDS;
    private static final int ALL_REGISTERS = PROCESSES * REGISTERS;
    private static final int ALL_DESCRIPTORS = PROCESSES * DESCRIPTORS;
    private static final int ALL_PIPE_WORDS = PIPES * PIPE_WORDS;

    private static final int ROOT = 0;
    private static final int NODE_FREE = 0;
    private static final int NODE_FILE = 1;
    private static final int NODE_DIRECTORY = 2;
    private static final int PARENT_NAME = 15;
    // No entry ever names the root, so its number can say that there is no node.
    private static final int NO_NODE = 0;
    private static final int NO_PARENT = -1;

    // What a descriptor is: nothing, or one of these plus the number of the opening or pipe.
    private static final int NOTHING = 0;
    private static final int OPENING = 1;
    private static final int READING_END = 4096;
    private static final int WRITING_END = 8192;

    private static final int OPEN_READ = 0;
    private static final int OPEN_EMPTIED = 2;
    private static final int OPEN_AT_END = 3;

    private static final int DONE = 1;
    private static final int FAILED = -1;
    private static final int NO_MORE_WORDS = 0;

    private static final int FORKED = -1;
    private static final int NOT_FORKED = -2;
    private static final int NO_CHILDREN = -1;
    private static final int NOTHING_NAMED = -1;
    private static final int RESULT_NO_READER = -2;
    private static final int RESULT_KILLED = -3;
    private static final int RESULT_OUTSIDE = -4;

    private static final int OP_END = 0;
    private static final int OP_SET = 1;
    private static final int OP_MOVE = 2;
    private static final int OP_ADD = 3;
    private static final int OP_SUBTRACT = 4;
    private static final int OP_ADD_NUMBER = 5;
    private static final int OP_LESS = 6;
    private static final int OP_JUMP_IF_ZERO = 7;
    private static final int OP_JUMP = 8;
    private static final int OP_JUMP_IF_NOT_ZERO = 9;
    private static final int OP_FORK = 10;
    private static final int OP_WAIT = 11;
    private static final int OP_EXECUTE = 12;
    private static final int OP_OPEN = 13;
    private static final int OP_CLOSE = 14;
    private static final int OP_READ = 15;
    private static final int OP_WRITE = 16;
    private static final int OP_PIPE = 17;
    private static final int OP_COPY = 18;
    private static final int OP_SEEK = 19;
    private static final int OP_MAKE = 20;
    private static final int OP_GO = 21;
    private static final int OP_LINK = 22;
    private static final int OP_REMOVE = 23;
    private static final int OP_OUT = 24;
    private static final int OP_YIELD = 25;
    private static final int OP_NUMBER = 26;
    private static final int OP_SIZE = 27;
    private static final int OP_KILL = 28;

    private final int[] nodeKind = new int[NODES];
    // The number of words of a file, of entries of a directory.
    private final int[] nodeSize = new int[NODES];
    private final int[] nodeParent = new int[NODES];
    private final int[] nodeWords = new int[ALL_WORDS];
    private final int[] entryNode = new int[ALL_NAMES];

    private final int[] processState = new int[PROCESSES];
    private final int[] processParent = new int[PROCESSES];
    private final int[] spotOrResult = new int[PROCESSES];
    private final int[] place = new int[PROCESSES];
    private final int[] program = new int[ALL_PROGRAMS];
    private final int[] programLength = new int[PROCESSES];
    private final int[] registers = new int[ALL_REGISTERS];
    // All nothing for a process that is free or ended: what is there is told by this array alone.
    private final int[] descriptors = new int[ALL_DESCRIPTORS];

    private final int[] openingFile = new int[OPENINGS];
    private final boolean[] openingWrites = new boolean[OPENINGS];
    private final int[] openingPosition = new int[OPENINGS];

    private final int[] pipeWords = new int[ALL_PIPE_WORDS];
    private final int[] pipeLength = new int[PIPES];

    private final int[] queue = new int[PROCESSES];
    private int queueLength = 0;

    private final int[] outputs = new int[OUTPUTS];
    private int printedCount = 0;
    private long executedCount = 0L;

    public UnixPersonality() {
        nodeKind[ROOT] = NODE_DIRECTORY;
        nodeParent[ROOT] = ROOT;
    }

    // ---- The public face ----

    public int file(int name, int i, int w) {
        if (name < 0 || name >= NAMES || i < 0 || i >= WORDS) {
            return BAD;
        }
        int node = fileNamed(ROOT, name);
        // Only word 0 can be the first word, and a call that is refused must make no file.
        if (node == NO_NODE && i == 0) {
            node = makeNode(ROOT, name, NODE_FILE);
        }
        if (node == NO_NODE || i > nodeSize[node]) {
            return BAD;
        }
        putWord(node, i, w);
        return node;
    }

    public int spawn(int name, int x) {
        int p = freeProcess();
        int node = fileNamed(ROOT, name);
        if (p < 0 || node == NO_NODE) {
            return BAD;
        }
        processState[p] = READY;
        processParent[p] = NO_PARENT;
        place[p] = ROOT;
        for (int r = 0; r < REGISTERS; r++) {
            registers[p * REGISTERS + r] = 0;
        }
        registers[p * REGISTERS] = x;
        loadProgram(p, node);
        joinQueue(p);
        return p;
    }

    public int run(int n) {
        int limit = n > MOST_TURNS ? MOST_TURNS : n;
        int turns = 0;
        for (int i = 0; i < limit; i++) {
            wakeWaiting();
            if (queueLength == 0) {
                break;
            }
            takeTurn();
            turns++;
        }
        return turns;
    }

    public int state(int p) {
        return p < 0 || p >= PROCESSES ? BAD : processState[p];
    }

    public int spot(int p) {
        if (p < 0 || p >= PROCESSES || processState[p] == FREE) {
            return BAD;
        }
        return spotOrResult[p];
    }

    public int register(int p, int r) {
        if (!isAlive(p) || r < 0 || r >= REGISTERS) {
            return 0;
        }
        return registers[p * REGISTERS + r];
    }

    public int descriptor(int p, int d) {
        if (!isAlive(p)) {
            return 0;
        }
        int what = heldAt(p, d);
        if (isOpening(what)) {
            int opening = what - OPENING;
            return 1 + 16 * openingPosition[opening] + 512 * opening;
        }
        return what;
    }

    public int entry(int node, int name) {
        if (!isNode(node) || nodeKind[node] != NODE_DIRECTORY || name < 0 || name > PARENT_NAME) {
            return BAD;
        }
        if (name == PARENT_NAME) {
            return nodeParent[node];
        }
        int found = nodeNamed(node, name);
        return found == NO_NODE ? NOTHING_NAMED : found;
    }

    public int kind(int node) {
        return isNode(node) ? nodeKind[node] : BAD;
    }

    public int size(int node) {
        if (!isNode(node) || nodeKind[node] == NODE_FREE) {
            return BAD;
        }
        return nodeSize[node];
    }

    public int word(int node, int i) {
        if (!isNode(node) || nodeKind[node] != NODE_FILE || i < 0 || i >= nodeSize[node]) {
            return 0;
        }
        return nodeWords[node * WORDS + i];
    }

    public int pipe(int k) {
        if (k < 0 || k >= PIPES) {
            return BAD;
        }
        return isHeld(READING_END + k) || isHeld(WRITING_END + k) ? pipeLength[k] : -1;
    }

    public long executed() {
        return executedCount;
    }

    public int printed() {
        return printedCount;
    }

    public int output(int k) {
        if (k < 0 || k >= OUTPUTS || k >= printedCount) {
            return 0;
        }
        return outputs[k];
    }

    // No answer depends on the level and files are kept in one way, so there is nothing to hold.
    public boolean level(int k) {
        return k == 0 || k == 1;
    }

    // ---- Turns and the queue ----

    private void wakeWaiting() {
        for (int p = 0; p < PROCESSES; p++) {
            if (processState[p] == WAITING && !wouldWait(p)) {
                processState[p] = READY;
                joinQueue(p);
            }
        }
    }

    private void takeTurn() {
        int p = queue[0];
        leaveQueue(p);
        boolean goesOn = true;
        for (int i = 0; i < TURN_INSTRUCTIONS && goesOn; i++) {
            if (wouldWait(p)) {
                processState[p] = WAITING;
                goesOn = false;
            } else {
                executedCount++;
                goesOn = execute(p);
                freeLostFiles();
            }
        }
        if (processState[p] == READY) {
            joinQueue(p);
        }
    }

    private void joinQueue(int p) {
        if (queueLength < PROCESSES) {
            queue[queueLength] = p;
            queueLength++;
        }
    }

    private void leaveQueue(int p) {
        int kept = 0;
        for (int i = 0; i < queueLength; i++) {
            if (queue[i] != p) {
                queue[kept] = queue[i];
                kept++;
            }
        }
        queueLength = kept;
    }

    private boolean wouldWait(int p) {
        if (!isInProgram(p)) {
            return false;
        }
        int w = program[p * WORDS + spotOrResult[p]];
        int op = w & 31;
        if (op == OP_WAIT) {
            return hasChild(p) && endedChild(p) < 0;
        }
        if (op != OP_READ && op != OP_WRITE) {
            return false;
        }
        int what = heldAt(p, registers[p * REGISTERS + ((w >> 7) & 3)]);
        return op == OP_READ ? readingWaits(what) : writingWaits(what);
    }

    private boolean readingWaits(int what) {
        int k = pipeOf(what, READING_END);
        return k >= 0 && pipeLength[k] == 0 && isHeld(WRITING_END + k);
    }

    private boolean writingWaits(int what) {
        int k = pipeOf(what, WRITING_END);
        return k >= 0 && pipeLength[k] == PIPE_WORDS && isHeld(READING_END + k);
    }

    // ---- Instructions ----

    /** Executes the instruction at p's spot, at which it does not wait; answers whether p's turn goes on. */
    private boolean execute(int p) {
        if (!isInProgram(p)) {
            endProcess(p, RESULT_OUTSIDE);
            return false;
        }
        int w = program[p * WORDS + spotOrResult[p]];
        int op = w & 31;
        int a = p * REGISTERS + ((w >> 5) & 3);
        int b = p * REGISTERS + ((w >> 7) & 3);
        int r3 = p * REGISTERS + 3;
        int n = w >> 9;
        // Before the instruction, so that a jump overrides it and a forked copy has it.
        spotOrResult[p]++;
        switch (op) {
            case OP_END: endProcess(p, registers[a]); break;
            case OP_FORK: fork(p, a); break;
            case OP_WAIT: takeEndedChild(p, a, b); break;
            case OP_EXECUTE: executeFile(p, registers[a]); break;
            case OP_OPEN: open(p, a, n & 3); break;
            case OP_CLOSE: registers[r3] = close(p, registers[b]); break;
            case OP_READ: read(p, a, b); break;
            case OP_WRITE: write(p, a, b); break;
            case OP_PIPE: openPipe(p, a, b); break;
            case OP_COPY: copyDescriptor(p, a, b); break;
            case OP_SEEK: registers[r3] = seek(p, registers[a], registers[b]); break;
            case OP_MAKE: registers[r3] = makeDirectory(p, registers[a]); break;
            case OP_GO: registers[r3] = go(p, registers[a]); break;
            case OP_LINK: registers[r3] = link(p, registers[a], registers[b]); break;
            case OP_REMOVE: registers[r3] = remove(p, registers[a]); break;
            case OP_OUT: print(registers[a]); break;
            case OP_NUMBER: registers[a] = p; break;
            case OP_SIZE: registers[a] = sizeNamed(p, registers[a]); break;
            case OP_KILL: registers[r3] = kill(p, registers[a]); break;
            case OP_JUMP_IF_ZERO: jumpIf(registers[a] == 0, p, n); break;
            case OP_JUMP: jumpIf(true, p, n); break;
            case OP_JUMP_IF_NOT_ZERO: jumpIf(registers[a] != 0, p, n); break;
            default: registers[a] = computed(op, registers[a], registers[b], n); break;
        }
        return processState[p] == READY && op != OP_YIELD;
    }

    /** What a register that holds x becomes; ops that do nothing leave it as it is. */
    private int computed(int op, int x, int y, int n) {
        switch (op) {
            case OP_SET: return n;
            case OP_MOVE: return y;
            case OP_ADD: return x + y;
            case OP_SUBTRACT: return x - y;
            case OP_ADD_NUMBER: return x + n;
            case OP_LESS: return x < y ? 1 : 0;
            default: return x;
        }
    }

    private void jumpIf(boolean jumps, int p, int target) {
        if (jumps) {
            spotOrResult[p] = target;
        }
    }

    private void print(int x) {
        // Long after the calls that the document allows the count wraps; no call may fail even then.
        if (printedCount >= 0 && printedCount < OUTPUTS) {
            outputs[printedCount] = x;
        }
        printedCount++;
    }

    private void fail(int p) {
        registers[p * REGISTERS + 3] = FAILED;
    }

    // ---- Processes ----

    private void fork(int p, int a) {
        int child = freeProcess();
        if (child < 0) {
            registers[a] = NOT_FORKED;
            return;
        }
        registers[a] = FORKED;
        copyProcess(p, child);
        registers[a] = child;
        processState[child] = READY;
        processParent[child] = p;
        joinQueue(child);
    }

    private void copyProcess(int from, int to) {
        spotOrResult[to] = spotOrResult[from];
        place[to] = place[from];
        programLength[to] = programLength[from];
        for (int i = 0; i < WORDS; i++) {
            program[to * WORDS + i] = program[from * WORDS + i];
        }
        for (int r = 0; r < REGISTERS; r++) {
            registers[to * REGISTERS + r] = registers[from * REGISTERS + r];
        }
        for (int d = 0; d < DESCRIPTORS; d++) {
            descriptors[to * DESCRIPTORS + d] = descriptors[from * DESCRIPTORS + d];
        }
    }

    private void takeEndedChild(int p, int a, int b) {
        int child = endedChild(p);
        if (child < 0) {
            registers[a] = NO_CHILDREN;
            return;
        }
        registers[a] = spotOrResult[child];
        registers[b] = child;
        processState[child] = FREE;
    }

    private void executeFile(int p, int name) {
        int node = fileNamed(place[p], name);
        if (node == NO_NODE) {
            fail(p);
        } else {
            loadProgram(p, node);
        }
    }

    private void loadProgram(int p, int node) {
        for (int i = 0; i < WORDS; i++) {
            program[p * WORDS + i] = nodeWords[node * WORDS + i];
        }
        programLength[p] = nodeSize[node];
        spotOrResult[p] = 0;
    }

    private int kill(int p, int other) {
        if (other == p || !isAlive(other)) {
            return FAILED;
        }
        endProcess(other, RESULT_KILLED);
        leaveQueue(other);
        return DONE;
    }

    private void endProcess(int p, int result) {
        for (int d = 0; d < DESCRIPTORS; d++) {
            descriptors[p * DESCRIPTORS + d] = NOTHING;
        }
        for (int c = 0; c < PROCESSES; c++) {
            if (processParent[c] == p) {
                processParent[c] = NO_PARENT;
                if (processState[c] == ENDED) {
                    processState[c] = FREE;
                }
            }
        }
        processState[p] = processParent[p] == NO_PARENT ? FREE : ENDED;
        spotOrResult[p] = result;
    }

    private int freeProcess() {
        for (int p = 0; p < PROCESSES; p++) {
            if (processState[p] == FREE) {
                return p;
            }
        }
        return -1;
    }

    private boolean isAlive(int p) {
        return p >= 0 && p < PROCESSES && (processState[p] == READY || processState[p] == WAITING);
    }

    private boolean isInProgram(int p) {
        return spotOrResult[p] >= 0 && spotOrResult[p] < programLength[p];
    }

    private boolean isChild(int c, int p) {
        return processState[c] != FREE && processParent[c] == p;
    }

    private boolean hasChild(int p) {
        for (int c = 0; c < PROCESSES; c++) {
            if (isChild(c, p)) {
                return true;
            }
        }
        return false;
    }

    private int endedChild(int p) {
        for (int c = 0; c < PROCESSES; c++) {
            if (isChild(c, p) && processState[c] == ENDED) {
                return c;
            }
        }
        return -1;
    }

    // ---- Descriptors, openings and pipes ----

    private void open(int p, int a, int mode) {
        int d = newDescriptor(p, 0);
        int opening = freeOpening();
        // Looked at first, because an OPEN that fails must neither empty nor make a file.
        if (d < 0 || opening < 0) {
            fail(p);
            return;
        }
        int node = fileNamed(place[p], registers[a]);
        if (node == NO_NODE && mode == OPEN_EMPTIED) {
            node = makeNode(place[p], registers[a], NODE_FILE);
        }
        if (node == NO_NODE) {
            fail(p);
            return;
        }
        if (mode == OPEN_EMPTIED) {
            nodeSize[node] = 0;
        }
        openingFile[opening] = node;
        openingWrites[opening] = mode != OPEN_READ;
        openingPosition[opening] = mode == OPEN_AT_END ? nodeSize[node] : 0;
        descriptors[p * DESCRIPTORS + d] = OPENING + opening;
        registers[a] = d;
    }

    private int close(int p, int d) {
        if (heldAt(p, d) == NOTHING) {
            return FAILED;
        }
        descriptors[p * DESCRIPTORS + d] = NOTHING;
        return DONE;
    }

    private void read(int p, int a, int b) {
        int what = heldAt(p, registers[b]);
        int k = pipeOf(what, READING_END);
        if (k >= 0) {
            readPipe(k, p, a);
        } else if (isOpening(what) && !openingWrites[what - OPENING]) {
            readFile(what - OPENING, p, a);
        } else {
            fail(p);
        }
    }

    private void readFile(int opening, int p, int a) {
        int node = openingFile[opening];
        int position = openingPosition[opening];
        if (position >= nodeSize[node]) {
            registers[p * REGISTERS + 3] = NO_MORE_WORDS;
            return;
        }
        registers[p * REGISTERS + 3] = DONE;
        registers[a] = nodeWords[node * WORDS + position];
        openingPosition[opening]++;
    }

    private void readPipe(int k, int p, int a) {
        if (pipeLength[k] == 0) {
            registers[p * REGISTERS + 3] = NO_MORE_WORDS;
            return;
        }
        registers[p * REGISTERS + 3] = DONE;
        registers[a] = pipeWords[k * PIPE_WORDS];
        for (int i = 1; i < PIPE_WORDS; i++) {
            pipeWords[k * PIPE_WORDS + i - 1] = pipeWords[k * PIPE_WORDS + i];
        }
        pipeLength[k]--;
    }

    private void write(int p, int a, int b) {
        int what = heldAt(p, registers[b]);
        int k = pipeOf(what, WRITING_END);
        if (k >= 0) {
            writePipe(k, p, registers[a]);
        } else if (isOpening(what) && openingWrites[what - OPENING]) {
            registers[p * REGISTERS + 3] = writeFile(what - OPENING, registers[a]);
        } else {
            fail(p);
        }
    }

    private int writeFile(int opening, int w) {
        int node = openingFile[opening];
        int position = openingPosition[opening];
        if (position >= WORDS || position > nodeSize[node]) {
            return FAILED;
        }
        putWord(node, position, w);
        openingPosition[opening]++;
        return DONE;
    }

    private void writePipe(int k, int p, int w) {
        if (!isHeld(READING_END + k)) {
            endProcess(p, RESULT_NO_READER);
        } else if (pipeLength[k] < PIPE_WORDS) {
            pipeWords[k * PIPE_WORDS + pipeLength[k]] = w;
            pipeLength[k]++;
            registers[p * REGISTERS + 3] = DONE;
        }
    }

    private void openPipe(int p, int a, int b) {
        int k = freePipe();
        int reading = newDescriptor(p, 0);
        int writing = newDescriptor(p, reading + 1);
        if (k < 0 || reading < 0 || writing < 0) {
            fail(p);
            return;
        }
        pipeLength[k] = 0;
        descriptors[p * DESCRIPTORS + reading] = READING_END + k;
        descriptors[p * DESCRIPTORS + writing] = WRITING_END + k;
        registers[a] = reading;
        registers[b] = writing;
    }

    private void copyDescriptor(int p, int a, int b) {
        int what = heldAt(p, registers[b]);
        int d = newDescriptor(p, 0);
        if (what == NOTHING || d < 0) {
            fail(p);
            return;
        }
        descriptors[p * DESCRIPTORS + d] = what;
        registers[a] = d;
    }

    private int seek(int p, int position, int d) {
        int what = heldAt(p, d);
        if (!isOpening(what)) {
            return FAILED;
        }
        int opening = what - OPENING;
        if (position < 0 || position > nodeSize[openingFile[opening]]) {
            return FAILED;
        }
        openingPosition[opening] = position;
        return DONE;
    }

    private int heldAt(int p, int d) {
        return d < 0 || d >= DESCRIPTORS ? NOTHING : descriptors[p * DESCRIPTORS + d];
    }

    private boolean isOpening(int what) {
        return what >= OPENING && what < OPENING + OPENINGS;
    }

    /** The pipe whose given end a descriptor is, or -1. */
    private int pipeOf(int what, int end) {
        return what >= end && what < end + PIPES ? what - end : -1;
    }

    private boolean isHeld(int what) {
        for (int i = 0; i < ALL_DESCRIPTORS; i++) {
            if (descriptors[i] == what) {
                return true;
            }
        }
        return false;
    }

    private int newDescriptor(int p, int from) {
        for (int d = from; d < DESCRIPTORS; d++) {
            if (descriptors[p * DESCRIPTORS + d] == NOTHING) {
                return d;
            }
        }
        return -1;
    }

    private int freeOpening() {
        for (int opening = 0; opening < OPENINGS; opening++) {
            if (!isHeld(OPENING + opening)) {
                return opening;
            }
        }
        return -1;
    }

    private int freePipe() {
        for (int k = 0; k < PIPES; k++) {
            if (!isHeld(READING_END + k) && !isHeld(WRITING_END + k)) {
                return k;
            }
        }
        return -1;
    }

    // ---- Nodes ----

    private int makeDirectory(int p, int name) {
        return makeNode(place[p], name, NODE_DIRECTORY) == NO_NODE ? FAILED : DONE;
    }

    private int go(int p, int name) {
        if (name == PARENT_NAME) {
            place[p] = nodeParent[place[p]];
            return DONE;
        }
        int node = nodeNamed(place[p], name);
        if (node == NO_NODE || nodeKind[node] != NODE_DIRECTORY) {
            return FAILED;
        }
        place[p] = node;
        return DONE;
    }

    private int link(int p, int name, int newName) {
        int node = fileNamed(place[p], name);
        if (node == NO_NODE || !canEnter(place[p], newName)) {
            return FAILED;
        }
        enter(place[p], newName, node);
        return DONE;
    }

    private int remove(int p, int name) {
        int node = nodeNamed(place[p], name);
        if (node == NO_NODE) {
            return FAILED;
        }
        if (nodeKind[node] == NODE_DIRECTORY) {
            if (nodeSize[node] > 0 || isPlace(node)) {
                return FAILED;
            }
            nodeKind[node] = NODE_FREE;
        }
        entryNode[place[p] * NAMES + name] = NO_NODE;
        nodeSize[place[p]]--;
        return DONE;
    }

    private int sizeNamed(int p, int name) {
        int node = nodeNamed(place[p], name);
        return node == NO_NODE ? NOTHING_NAMED : nodeSize[node];
    }

    private boolean isNode(int node) {
        return node >= 0 && node < NODES;
    }

    private boolean isPlace(int node) {
        for (int p = 0; p < PROCESSES; p++) {
            if (isAlive(p) && place[p] == node) {
                return true;
            }
        }
        return false;
    }

    private int nodeNamed(int directory, int name) {
        return name < 0 || name >= NAMES ? NO_NODE : entryNode[directory * NAMES + name];
    }

    private int fileNamed(int directory, int name) {
        int node = nodeNamed(directory, name);
        return nodeKind[node] == NODE_FILE ? node : NO_NODE;
    }

    private boolean canEnter(int directory, int name) {
        return name >= 0 && name < NAMES && nodeSize[directory] < ENTRIES
            && entryNode[directory * NAMES + name] == NO_NODE;
    }

    private void enter(int directory, int name, int node) {
        entryNode[directory * NAMES + name] = node;
        nodeSize[directory]++;
    }

    /** Makes the smallest free node a file or directory entered by a new name; NO_NODE if it can't. */
    private int makeNode(int directory, int name, int newKind) {
        int node = freeNode();
        if (node == NO_NODE || !canEnter(directory, name)) {
            return NO_NODE;
        }
        nodeKind[node] = newKind;
        nodeSize[node] = 0;
        nodeParent[node] = directory;
        enter(directory, name, node);
        return node;
    }

    private int freeNode() {
        for (int node = 0; node < NODES; node++) {
            if (nodeKind[node] == NODE_FREE) {
                return node;
            }
        }
        return NO_NODE;
    }

    private void putWord(int node, int i, int w) {
        nodeWords[node * WORDS + i] = w;
        if (i == nodeSize[node]) {
            nodeSize[node]++;
        }
    }

    private void freeLostFiles() {
        for (int node = 0; node < NODES; node++) {
            if (nodeKind[node] == NODE_FILE && !isEntered(node) && !isOpened(node)) {
                nodeKind[node] = NODE_FREE;
            }
        }
    }

    private boolean isEntered(int node) {
        for (int i = 0; i < ALL_NAMES; i++) {
            if (entryNode[i] == node) {
                return true;
            }
        }
        return false;
    }

    private boolean isOpened(int node) {
        for (int i = 0; i < ALL_DESCRIPTORS; i++) {
            if (isOpening(descriptors[i]) && openingFile[descriptors[i] - OPENING] == node) {
                return true;
            }
        }
        return false;
    }
}
