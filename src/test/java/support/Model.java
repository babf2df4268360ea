import java.util.ArrayDeque;
import java.util.ArrayList;
import java.util.List;
import java.util.TreeMap;

/** The document once more, by objects and counted holders instead of numbers and scans: an oracle for ModelTest. */
final class Model {
    static final int BAD = -1000000;

    static final class Node {
        final int number;
        final Node parent;
        final List<Integer> words = new ArrayList<>();
        final TreeMap<Integer, Node> entries = new TreeMap<>();
        final boolean directory;
        int holders = 0;

        Node(int number, boolean directory, Node parent) {
            this.number = number;
            this.directory = directory;
            this.parent = directory && parent == null ? this : parent;
        }
    }

    /** What a descriptor can be; shared by the descriptors that are it. */
    static class Thing {
        int number;
    }

    static final class Opening extends Thing {
        Node file;
        boolean writes;
        int position = 0;
        int holders = 0;
    }

    static final class Pipe {
        int number;
        final ArrayDeque<Integer> words = new ArrayDeque<>();
        final End reading = new End(this, false);
        final End writing = new End(this, true);
    }

    static final class End extends Thing {
        final Pipe pipe;
        final boolean writes;
        int holders = 0;

        End(Pipe pipe, boolean writes) {
            this.pipe = pipe;
            this.writes = writes;
        }
    }

    static final class Process {
        int number;
        int state = 1;
        Process parent;
        int result;
        int spot = 0;
        List<Integer> program;
        int[] r = new int[4];
        Node place;
        Thing[] d = new Thing[4];
    }

    final Node[] nodes = new Node[10];
    final Process[] processes = new Process[5];
    final Opening[] openings = new Opening[8];
    final Pipe[] pipes = new Pipe[2];
    final ArrayDeque<Process> queue = new ArrayDeque<>();
    final List<Integer> printed = new ArrayList<>();
    long executed = 0;
    /** What has happened, by name, so that a test can see that its runs reach the edges. */
    final TreeMap<String, Integer> happened = new TreeMap<>();

    Model() {
        nodes[0] = new Node(0, true, null);
    }

    private static <T> int firstFree(T[] all) {
        for (int i = 0; i < all.length; i++) {
            if (all[i] == null) {
                return i;
            }
        }
        return -1;
    }

    private void note(String what) {
        happened.merge(what, 1, Integer::sum);
    }

    // ---- calls ----

    int file(int name, int i, int w) {
        if (name < 0 || name > 14 || i < 0 || i > 19) {
            return BAD;
        }
        Node node = nodes[0].entries.get(name);
        if (node != null && node.directory) {
            return BAD;
        }
        if (node == null && (firstFree(nodes) < 0 || nodes[0].entries.size() == 6)) {
            return BAD;
        }
        if (i > (node == null ? 0 : node.words.size())) {
            return BAD;
        }
        if (node == null) {
            node = create(nodes[0], name, false);
        }
        put(node, i, w);
        return node.number;
    }

    int spawn(int name, int x) {
        int number = firstFree(processes);
        Node node = nodes[0].entries.get(name);
        if (number < 0 || node == null || node.directory) {
            return BAD;
        }
        Process p = new Process();
        p.number = number;
        p.program = new ArrayList<>(node.words);
        p.r[0] = x;
        p.place = nodes[0];
        processes[number] = p;
        queue.addLast(p);
        return number;
    }

    int run(int n) {
        int most = Math.max(0, Math.min(80, n));
        int turns = 0;
        while (turns < most && turn()) {
            turns++;
        }
        return turns;
    }

    private Process process(int p) {
        return p < 0 || p > 4 ? null : processes[p];
    }

    private Process alive(int p) {
        Process it = process(p);
        return it == null || it.state == 3 ? null : it;
    }

    private Node node(int n) {
        return n < 0 || n > 9 ? null : nodes[n];
    }

    int state(int p) {
        if (p < 0 || p > 4) {
            return BAD;
        }
        return processes[p] == null ? 0 : processes[p].state;
    }

    int spot(int p) {
        Process it = process(p);
        if (it == null) {
            return BAD;
        }
        return it.state == 3 ? it.result : it.spot;
    }

    int register(int p, int r) {
        Process it = alive(p);
        return it == null || r < 0 || r > 3 ? 0 : it.r[r];
    }

    int descriptor(int p, int d) {
        Process it = alive(p);
        Thing thing = it == null || d < 0 || d > 3 ? null : it.d[d];
        if (thing == null) {
            return 0;
        }
        if (thing instanceof Opening) {
            return 1 + 16 * ((Opening) thing).position + 512 * thing.number;
        }
        End end = (End) thing;
        return (end.writes ? 8192 : 4096) + end.pipe.number;
    }

    int entry(int n, int name) {
        Node it = node(n);
        if (it == null || !it.directory || name < 0 || name > 15) {
            return BAD;
        }
        if (name == 15) {
            return it.parent.number;
        }
        return it.entries.containsKey(name) ? it.entries.get(name).number : -1;
    }

    int kind(int n) {
        if (n < 0 || n > 9) {
            return BAD;
        }
        return nodes[n] == null ? 0 : nodes[n].directory ? 2 : 1;
    }

    int size(int n) {
        Node it = node(n);
        if (it == null) {
            return BAD;
        }
        return it.directory ? it.entries.size() : it.words.size();
    }

    int word(int n, int i) {
        Node it = node(n);
        return it == null || i < 0 || i >= it.words.size() ? 0 : it.words.get(i);
    }

    int pipe(int k) {
        if (k < 0 || k > 1) {
            return BAD;
        }
        return pipes[k] == null ? -1 : pipes[k].words.size();
    }

    int printed() {
        return printed.size();
    }

    int output(int k) {
        return k < 0 || k > 31 || k >= printed.size() ? 0 : printed.get(k);
    }

    boolean level(int k) {
        return k >= 0 && k <= 1;
    }

    // ---- nodes ----

    private Node create(Node directory, int name, boolean isDirectory) {
        int number = firstFree(nodes);
        nodes[number] = new Node(number, isDirectory, directory);
        nodes[number].holders = 1;
        directory.entries.put(name, nodes[number]);
        return nodes[number];
    }

    private boolean noRoom(Node directory, int name) {
        if (name < 0 || name > 14) {
            note("no name");
            return true;
        }
        if (firstFree(nodes) < 0) {
            note("no free node");
            return true;
        }
        if (directory.entries.size() == 6) {
            note("6 entries");
            return true;
        }
        return false;
    }

    private static void put(Node node, int i, int w) {
        if (i == node.words.size()) {
            node.words.add(w);
        } else {
            node.words.set(i, w);
        }
    }

    private void drop(Node node) {
        node.holders--;
        if (node.holders == 0) {
            nodes[node.number] = null;
            note("node freed");
        }
    }

    // ---- descriptors ----

    private static int firstNothing(Process p) {
        return firstFree(p.d);
    }

    private void hold(Process p, int d, Thing thing) {
        p.d[d] = thing;
        if (thing instanceof Opening) {
            ((Opening) thing).holders++;
        } else if (thing != null) {
            ((End) thing).holders++;
        }
    }

    private void letGo(Process p, int d) {
        Thing thing = p.d[d];
        p.d[d] = null;
        if (thing instanceof Opening) {
            Opening opening = (Opening) thing;
            opening.holders--;
            if (opening.holders == 0) {
                openings[opening.number] = null;
                drop(opening.file);
            }
        } else if (thing != null) {
            End end = (End) thing;
            end.holders--;
            if (end.pipe.reading.holders + end.pipe.writing.holders == 0) {
                pipes[end.pipe.number] = null;
            }
        }
    }

    private static Thing thing(Process p, int d) {
        return d < 0 || d > 3 ? null : p.d[d];
    }

    // ---- processes ----

    private List<Process> children(Process p) {
        List<Process> found = new ArrayList<>();
        for (Process c : processes) {
            if (c != null && c.parent == p) {
                found.add(c);
            }
        }
        return found;
    }

    private void end(Process p, int result) {
        note("ended " + (result <= -2 && result >= -4 ? result : 0));
        for (int d = 0; d < 4; d++) {
            letGo(p, d);
        }
        for (Process c : children(p)) {
            c.parent = null;
            if (c.state == 3) {
                processes[c.number] = null;
                note("orphan freed");
            }
        }
        p.state = 3;
        p.result = result;
        queue.remove(p);
        if (p.parent == null) {
            processes[p.number] = null;
        }
    }

    private boolean turn() {
        for (Process p : processes) {
            if (p != null && p.state == 2 && !blocks(p)) {
                p.state = 1;
                queue.addLast(p);
            }
        }
        Process p = queue.pollFirst();
        if (p == null) {
            return false;
        }
        int count = 0;
        while (count < 3 && p.state == 1) {
            if (blocks(p)) {
                p.state = 2;
                note(count == 0 ? "waits at once" : "waits");
                return true;
            }
            count++;
            executed++;
            if (p.spot < 0 || p.spot >= p.program.size()) {
                end(p, -4);
                return true;
            }
            int w = p.program.get(p.spot);
            p.spot++;
            instruction(p, w & 31, (w >> 5) & 3, (w >> 7) & 3, w >> 9);
            if ((w & 31) == 25) {
                break;
            }
        }
        if (p.state == 1) {
            queue.addLast(p);
        }
        return true;
    }

    private boolean blocks(Process p) {
        if (p.spot < 0 || p.spot >= p.program.size()) {
            return false;
        }
        int w = p.program.get(p.spot);
        Thing thing = thing(p, p.r[(w >> 7) & 3]);
        switch (w & 31) {
            case 11:
                return !children(p).isEmpty() && children(p).stream().noneMatch(c -> c.state == 3);
            case 15:
                if (thing instanceof End && !((End) thing).writes) {
                    Pipe pipe = ((End) thing).pipe;
                    return pipe.words.isEmpty() && pipe.writing.holders > 0;
                }
                return false;
            case 16:
                if (thing instanceof End && ((End) thing).writes) {
                    Pipe pipe = ((End) thing).pipe;
                    return pipe.words.size() == 4 && pipe.reading.holders > 0;
                }
                return false;
            default:
                return false;
        }
    }

    private void instruction(Process p, int op, int ra, int rb, int n) {
        int[] r = p.r;
        boolean done;
        switch (op) {
            case 0: end(p, r[ra]); return;
            case 1: r[ra] = n; return;
            case 2: r[ra] = r[rb]; return;
            case 3: r[ra] += r[rb]; return;
            case 4: r[ra] -= r[rb]; return;
            case 5: r[ra] += n; return;
            case 6: r[ra] = r[ra] < r[rb] ? 1 : 0; return;
            case 7: p.spot = r[ra] == 0 ? n : p.spot; return;
            case 8: p.spot = n; return;
            case 9: p.spot = r[ra] != 0 ? n : p.spot; return;
            case 10: fork(p, ra); return;
            case 11: reap(p, ra, rb); return;
            case 12: done = become(p, r[ra]); note("execute " + done); if (!done) r[3] = -1; return;
            case 13: done = open(p, ra, n & 3); note("open " + (n & 3) + " " + done); if (!done) r[3] = -1; return;
            case 14: done = close(p, r[rb]); break;
            case 15: read(p, ra, thing(p, r[rb])); return;
            case 16: write(p, r[ra], thing(p, r[rb])); return;
            case 17: done = pipe(p, ra, rb); note("pipe " + done); if (!done) r[3] = -1; return;
            case 18: done = copy(p, ra, thing(p, r[rb])); note("copy " + done); if (!done) r[3] = -1; return;
            case 19: done = seek(r[ra], thing(p, r[rb])); break;
            case 20: done = make(p, r[ra]); break;
            case 21: done = go(p, r[ra]); break;
            case 22: done = link(p, r[ra], r[rb]); break;
            case 23: done = remove(p, r[ra]); break;
            case 24: printed.add(r[ra]); return;
            case 26: r[ra] = p.number; return;
            case 27:
                Node named = p.place.entries.get(r[ra]);
                note("size " + (named != null));
                r[ra] = named == null ? -1 : size(named.number);
                return;
            case 28: done = kill(p, r[ra]); break;
            default: return;
        }
        note("op " + op + " " + done);
        r[3] = done ? 1 : -1;
    }

    private void fork(Process p, int ra) {
        int number = firstFree(processes);
        note("fork " + (number >= 0));
        if (number < 0) {
            p.r[ra] = -2;
            return;
        }
        Process c = new Process();
        c.number = number;
        c.parent = p;
        c.spot = p.spot;
        c.program = new ArrayList<>(p.program);
        c.r = p.r.clone();
        c.place = p.place;
        for (int d = 0; d < 4; d++) {
            hold(c, d, p.d[d]);
        }
        c.r[ra] = -1;
        p.r[ra] = number;
        processes[number] = c;
        queue.addLast(c);
    }

    private void reap(Process p, int ra, int rb) {
        for (Process c : children(p)) {
            if (c.state == 3) {
                p.r[ra] = c.result;
                p.r[rb] = c.number;
                processes[c.number] = null;
                note("reaped");
                return;
            }
        }
        note("no children");
        p.r[ra] = -1;
    }

    private boolean become(Process p, int name) {
        Node node = p.place.entries.get(name);
        if (node == null || node.directory) {
            return false;
        }
        p.program = new ArrayList<>(node.words);
        p.spot = 0;
        return true;
    }

    private boolean open(Process p, int ra, int mode) {
        Node node = p.place.entries.get(p.r[ra]);
        int d = firstNothing(p);
        int number = firstFree(openings);
        if (node != null && node.directory) {
            note("open directory");
            return false;
        }
        if (node == null && (mode != 2 || noRoom(p.place, p.r[ra]))) {
            return false;
        }
        if (d < 0 || number < 0) {
            note(d < 0 ? "open without NEW" : "all openings there");
            return false;
        }
        if (node == null) {
            node = create(p.place, p.r[ra], false);
        }
        if (mode == 2) {
            node.words.clear();
        }
        Opening opening = new Opening();
        opening.number = number;
        opening.file = node;
        node.holders++;
        opening.writes = mode > 0;
        opening.position = mode == 3 ? node.words.size() : 0;
        openings[number] = opening;
        hold(p, d, opening);
        p.r[ra] = d;
        return true;
    }

    private boolean close(Process p, int d) {
        if (thing(p, d) == null) {
            return false;
        }
        letGo(p, d);
        return true;
    }

    private void read(Process p, int ra, Thing thing) {
        if (thing instanceof Opening && !((Opening) thing).writes) {
            Opening opening = (Opening) thing;
            boolean more = opening.position < opening.file.words.size();
            note("file read " + more);
            p.r[3] = more ? 1 : 0;
            if (more) {
                p.r[ra] = opening.file.words.get(opening.position++);
            }
        } else if (thing instanceof End && !((End) thing).writes) {
            Integer first = ((End) thing).pipe.words.pollFirst();
            note("pipe read " + (first != null));
            p.r[3] = first == null ? 0 : 1;
            if (first != null) {
                p.r[ra] = first;
            }
        } else {
            note("read fails");
            p.r[3] = -1;
        }
    }

    private void write(Process p, int w, Thing thing) {
        if (thing instanceof Opening && ((Opening) thing).writes) {
            Opening opening = (Opening) thing;
            int length = opening.file.words.size();
            if (opening.position > length || opening.position == 20) {
                note(opening.position > length ? "write above" : "write with 20");
                p.r[3] = -1;
                return;
            }
            note(opening.position == length ? "file appended" : "file overwritten");
            put(opening.file, opening.position++, w);
            p.r[3] = 1;
        } else if (thing instanceof End && ((End) thing).writes) {
            Pipe pipe = ((End) thing).pipe;
            if (pipe.reading.holders == 0) {
                end(p, -2);
                return;
            }
            note("pipe written");
            pipe.words.addLast(w);
            p.r[3] = 1;
        } else {
            note("write fails");
            p.r[3] = -1;
        }
    }

    private boolean pipe(Process p, int ra, int rb) {
        int nothing = 0;
        for (Thing thing : p.d) {
            nothing += thing == null ? 1 : 0;
        }
        int number = firstFree(pipes);
        if (number < 0 || nothing < 2) {
            note(number < 0 ? "both pipes there" : "pipe without NEW " + nothing);
            return false;
        }
        Pipe made = new Pipe();
        made.number = number;
        pipes[number] = made;
        int reading = firstNothing(p);
        hold(p, reading, made.reading);
        int writing = firstNothing(p);
        hold(p, writing, made.writing);
        p.r[ra] = reading;
        p.r[rb] = writing;
        return true;
    }

    private boolean copy(Process p, int ra, Thing thing) {
        int d = firstNothing(p);
        if (thing == null || d < 0) {
            return false;
        }
        hold(p, d, thing);
        p.r[ra] = d;
        return true;
    }

    private boolean seek(int position, Thing thing) {
        if (!(thing instanceof Opening)) {
            return false;
        }
        Opening opening = (Opening) thing;
        if (position < 0 || position > opening.file.words.size()) {
            return false;
        }
        opening.position = position;
        return true;
    }

    private boolean make(Process p, int name) {
        if (p.place.entries.containsKey(name) || noRoom(p.place, name)) {
            return false;
        }
        create(p.place, name, true);
        return true;
    }

    private boolean go(Process p, int name) {
        Node to = name == 15 ? p.place.parent : p.place.entries.get(name);
        if (to == null || !to.directory) {
            return false;
        }
        p.place = to;
        return true;
    }

    private boolean link(Process p, int name, int newName) {
        Node node = p.place.entries.get(name);
        if (node == null || node.directory || p.place.entries.containsKey(newName)) {
            return false;
        }
        if (newName < 0 || newName > 14 || p.place.entries.size() == 6) {
            note("link without room");
            return false;
        }
        p.place.entries.put(newName, node);
        node.holders++;
        return true;
    }

    private boolean remove(Process p, int name) {
        Node node = p.place.entries.get(name);
        if (node == null) {
            return false;
        }
        if (node.directory) {
            boolean isPlace = false;
            for (Process q : processes) {
                isPlace |= q != null && q.state != 3 && q.place == node;
            }
            if (!node.entries.isEmpty() || isPlace) {
                note(isPlace ? "remove a place" : "remove with entries");
                return false;
            }
            note("directory removed");
        }
        p.place.entries.remove(name);
        drop(node);
        return true;
    }

    private boolean kill(Process p, int number) {
        Process other = process(number);
        if (other == null || other == p || other.state == 3) {
            return false;
        }
        note("killed in state " + other.state);
        end(other, -3);
        return true;
    }
}
