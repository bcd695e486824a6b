import java.util.Arrays;

/** Distances in a small net, exact and as told from the notes of two nodes; see README.md. */
public final class BunchNotes {
    public static final int NONE = -1, UNKNOWN = -2, OUTSIDE = -3, NOT = -4, FULL = -5;

    private static final int MOST_NODES = 12;
    private static final int FEWEST_NODES = 2;
    private static final int MOST_LINKS = 30;
    private static final int LONGEST = 99;
    private static final int LEVELS = 3;
    private static final int WIDEST = 9;
    private static final int MOST_LETTERS = 200;
    private static final int MOST_CLAUSES = 24;
    private static final int MOST_UNDONE = 8;
    private static final int SLOTS = 2;

    private final Net now;
    private final Net trial;
    private final Text text;
    private final Past past;
    private final Note[] notes;
    private final Note draft;
    private final Slot[] slots;
    private final Far far;
    private final Thinning thinning;
    private final Telling telling;
    private final Peak peak;

    public BunchNotes() {
        now = new Net();
        trial = new Net();
        text = new Text();
        past = new Past();
        notes = blankNotes();
        draft = new Note();
        slots = new Slot[SLOTS];
        for (int k = 0; k < SLOTS; k++) {
            slots[k] = new Slot();
        }
        far = new Far();
        thinning = new Thinning();
        telling = new Telling();
        peak = new Peak();
    }

    // ---- what is told

    public int type(int letter) {
        if (letter < 0 || letter > 255) {
            return OUTSIDE;
        }
        if (text.size >= MOST_LETTERS) {
            return FULL;
        }
        text.append(letter);
        return text.size;
    }

    public int erase() {
        int had = text.size;
        text.size = 0;
        return had;
    }

    public int fault() {
        return readText();
    }

    public int net() {
        if (readText() != NONE) {
            return NOT;
        }
        now.copyFrom(trial);
        if (text.startsAnew) {
            blankAll();
        }
        past.size = 0;
        forgetSlots();
        text.size = 0;
        return text.clauses;
    }

    public int link(int link, int what) {
        int cell = now.cellOfLink(link);
        if (cell == NONE) {
            return UNKNOWN;
        }
        int lower = cell / MOST_NODES;
        int other = cell % MOST_NODES;
        switch (what) {
            case 0:
                return lower;
            case 1:
                return other;
            case 2:
                return now.lengthOf(lower, other);
            default:
                return OUTSIDE;
        }
    }

    public int level(int node) {
        if (!now.has(node)) {
            return UNKNOWN;
        }
        return now.levelOf(node);
    }

    // ---- acts

    public int join(int u, int v, int l) {
        if (!bothThere(u, v) || u == v) {
            return UNKNOWN;
        }
        if (l < 1 || l > LONGEST) {
            return OUTSIDE;
        }
        if (!now.hasRoomFor(u, v)) {
            return FULL;
        }
        past.push(now);
        now.setLength(u, v, l);
        return now.links;
    }

    public int cut(int u, int v) {
        if (!bothThere(u, v)) {
            return UNKNOWN;
        }
        int had = now.lengthOf(u, v);
        if (had == 0) {
            return NOT;
        }
        past.push(now);
        now.setLength(u, v, 0);
        return had;
    }

    public int lift(int node, int i) {
        if (!now.has(node)) {
            return UNKNOWN;
        }
        if (i < 0 || i >= LEVELS) {
            return OUTSIDE;
        }
        int was = now.levelOf(node);
        past.push(now);
        now.setLevel(node, i);
        return was;
    }

    public int draw(int seed) {
        past.push(now);
        now.drawLevels(seed);
        return now.nodes - now.nodesOfLevel(0);
    }

    public int thin(int t) {
        if (t < 1 || t > WIDEST) {
            return OUTSIDE;
        }
        past.push(now);
        thinning.follow(now, t);
        for (int u = 0; u < now.nodes; u++) {
            for (int v = u + 1; v < now.nodes; v++) {
                if (!thinning.takes(u, v)) {
                    now.setLength(u, v, 0);
                }
            }
        }
        return now.links;
    }

    public int undo() {
        if (past.size == 0) {
            return NOT;
        }
        past.pop(now);
        return past.size;
    }

    public int keep(int k) {
        if (k < 0 || k >= SLOTS) {
            return OUTSIDE;
        }
        slots[k].filled = true;
        slots[k].net.copyFrom(now);
        copyNotes(notes, slots[k].notes);
        return writtenNotes();
    }

    public int back(int k) {
        if (k < 0 || k >= SLOTS) {
            return OUTSIDE;
        }
        if (!slots[k].filled) {
            return NOT;
        }
        now.copyFrom(slots[k].net);
        copyNotes(slots[k].notes, notes);
        past.size = 0;
        return writtenNotes();
    }

    // ---- how it is

    public int distance(int u, int v) {
        if (!bothThere(u, v)) {
            return UNKNOWN;
        }
        far.follow(now);
        return far.between(u, v);
    }

    public int nearest(int node, int level, int what) {
        if (!now.has(node)) {
            return UNKNOWN;
        }
        if (level < 0 || level >= LEVELS || what < 0 || what > 1) {
            return OUTSIDE;
        }
        writeDraft(node);
        return what == 0 ? draft.nearestAt(level) : draft.nearestFarAt(level);
    }

    public int bunch(int node, int what) {
        if (!now.has(node)) {
            return UNKNOWN;
        }
        if (what < 0 || what > 1) {
            return OUTSIDE;
        }
        if (what == 1) {
            return clusterOf(node);
        }
        writeDraft(node);
        return draft.bunch;
    }

    public int next(int u, int w) {
        if (!bothThere(u, w)) {
            return UNKNOWN;
        }
        return stepTowards(u, w);
    }

    public int thinned(int t, int link) {
        if (t < 1 || t > WIDEST) {
            return OUTSIDE;
        }
        int cell = now.cellOfLink(link);
        if (link != NONE && cell == NONE) {
            return UNKNOWN;
        }
        thinning.follow(now, t);
        if (link == NONE) {
            return thinning.size;
        }
        return thinning.takes(cell / MOST_NODES, cell % MOST_NODES) ? 1 : 0;
    }

    public int worst(int t, int what) {
        if (t < 1 || t > WIDEST || what < 0 || what > 1) {
            return OUTSIDE;
        }
        weighThinned(t);
        if (peak.met == 0) {
            return NONE;
        }
        int part = commonPart(peak.above, peak.below);
        if (part == 0) {
            return NONE;
        }
        return what == 0 ? peak.above / part : peak.below / part;
    }

    // ---- notes

    public int note(int node) {
        if (!now.has(node)) {
            return UNKNOWN;
        }
        writeDraft(node);
        notes[node].copyFrom(draft);
        return Integer.bitCount(draft.bunch);
    }

    public int mend() {
        int mended = 0;
        for (int v = 0; v < now.nodes; v++) {
            if (!isFresh(v)) {
                notes[v].copyFrom(draft);
                mended++;
            }
        }
        return mended;
    }

    public int tear(int node) {
        if (!now.has(node)) {
            return UNKNOWN;
        }
        int was = notes[node].written ? 1 : 0;
        notes[node].written = false;
        return was;
    }

    public int noted(int node, int what) {
        if (!now.has(node)) {
            return UNKNOWN;
        }
        if (what < 0 || what > 7) {
            return OUTSIDE;
        }
        if (what == 0) {
            return isFresh(node) ? 1 : 0;
        }
        Note note = notes[node];
        if (!note.written) {
            return NOT;
        }
        if (what <= LEVELS) {
            return note.nearestAt(what - 1);
        }
        return what == 7 ? note.bunch : note.nearestFarAt(what - 1 - LEVELS);
    }

    public int notedFar(int node, int w) {
        if (!bothThere(node, w)) {
            return UNKNOWN;
        }
        return notes[node].farOf(w);
    }

    public int told(int u, int v, int what) {
        if (!bothThere(u, v)) {
            return UNKNOWN;
        }
        if (what < 0 || what > 2) {
            return OUTSIDE;
        }
        telling.tell(notes, u, v);
        if (telling.reason != Telling.TOLD) {
            return NONE;
        }
        if (what == 0) {
            return telling.far;
        }
        return what == 1 ? telling.by : telling.level;
    }

    public int why(int u, int v, int what) {
        if (!bothThere(u, v)) {
            return UNKNOWN;
        }
        if (what < 0 || what > 2) {
            return OUTSIDE;
        }
        telling.tell(notes, u, v);
        if (telling.reason == Telling.TOLD) {
            return NONE;
        }
        if (what == 0) {
            return telling.reason;
        }
        return what == 1 ? telling.level : telling.last;
    }

    public int route(int u, int v, int k) {
        if (!bothThere(u, v)) {
            return UNKNOWN;
        }
        telling.tell(notes, u, v);
        if (telling.reason != Telling.TOLD) {
            return NOT;
        }
        int w = telling.by;
        far.follow(now);
        if (far.between(u, w) == NONE || far.between(w, v) == NONE) {
            return NOT;
        }
        if (k < 0) {
            return NONE;
        }
        int toW = stepsBetween(u, w);
        if (k <= toW) {
            return nodeAfter(u, w, k);
        }
        return k - toW <= stepsBetween(w, v) ? nodeAfter(w, v, k - toW) : NONE;
    }

    public int pairs(int what) {
        if (what < 0 || what > 3) {
            return OUTSIDE;
        }
        int untold = weighTold();
        if (what == 3) {
            return untold;
        }
        if (what == 2) {
            return peak.met;
        }
        if (peak.met == 0) {
            return NONE;
        }
        return what == 0 ? peak.u : peak.v;
    }

    public int count(int what) {
        switch (what) {
            case 0:
                return now.nodes;
            case 1:
                return now.links;
            case 2:
                return parts();
            case 3:
                return writtenNotes();
            case 4:
                return freshNotes();
            case 5:
                return nodesInNotes();
            case 6:
                return past.size;
            case 7:
                return text.size;
            case 8:
                return now.draw;
            case 9:
            case 10:
            case 11:
                return now.nodesOfLevel(what - 9);
            default:
                return OUTSIDE;
        }
    }

    // ---- helpers

    private static Note[] blankNotes() {
        Note[] made = new Note[MOST_NODES];
        for (int v = 0; v < MOST_NODES; v++) {
            made[v] = new Note();
        }
        return made;
    }

    private static void copyNotes(Note[] from, Note[] to) {
        for (int v = 0; v < MOST_NODES; v++) {
            to[v].copyFrom(from[v]);
        }
    }

    private static int cell(int u, int v) {
        return u * MOST_NODES + v;
    }

    /** The greatest number that divides both; 0 only if both are 0. */
    private static int commonPart(int a, int b) {
        int more = a;
        int less = b;
        for (int step = 0; step < 64 && less != 0; step++) {
            int rest = more % less;
            more = less;
            less = rest;
        }
        return more;
    }

    private boolean bothThere(int u, int v) {
        return now.has(u) && now.has(v);
    }

    /** Reads the text on a copy of the net, so that a fault leaves the net as it is. */
    private int readText() {
        trial.copyFrom(now);
        return text.readInto(trial);
    }

    private void blankAll() {
        for (int v = 0; v < MOST_NODES; v++) {
            notes[v].written = false;
        }
    }

    private void forgetSlots() {
        for (int k = 0; k < SLOTS; k++) {
            slots[k].filled = false;
        }
    }

    /** The draft is what the note of a node would bear, were it written now. */
    private void writeDraft(int node) {
        far.follow(now);
        draft.write(now, far, node);
    }

    /** Leaves in the draft what the note would bear now; mend() takes it from there. */
    private boolean isFresh(int node) {
        writeDraft(node);
        return notes[node].bearsSameAs(draft);
    }

    private int clusterOf(int w) {
        int cluster = 0;
        for (int v = 0; v < now.nodes; v++) {
            writeDraft(v);
            if (draft.holds(w)) {
                cluster |= 1 << v;
            }
        }
        return cluster;
    }

    private int stepTowards(int u, int w) {
        far.follow(now);
        int whole = far.between(u, w);
        if (u == w || whole == NONE) {
            return NONE;
        }
        for (int x = 0; x < now.nodes; x++) {
            int length = now.lengthOf(u, x);
            int rest = far.between(x, w);
            if (length > 0 && rest != NONE && length + rest == whole) {
                return x;
            }
        }
        return NONE;
    }

    private int stepsBetween(int from, int to) {
        int at = from;
        int steps = 0;
        while (steps < MOST_NODES && at != to && at != NONE) {
            at = stepTowards(at, to);
            steps++;
        }
        return steps;
    }

    private int nodeAfter(int from, int to, int steps) {
        int at = from;
        for (int step = 0; step < steps && step < MOST_NODES && at != NONE; step++) {
            at = stepTowards(at, to);
        }
        return at;
    }

    private void weighThinned(int t) {
        far.follow(now);
        thinning.follow(now, t);
        peak.clear();
        for (int u = 0; u < now.nodes; u++) {
            for (int v = u + 1; v < now.nodes; v++) {
                int direct = far.between(u, v);
                if (direct != NONE) {
                    peak.offer(thinning.far.between(u, v), direct, u, v);
                }
            }
        }
    }

    /** Weighs all pairs that are told; answers how many that have a way are not. */
    private int weighTold() {
        far.follow(now);
        peak.clear();
        int untold = 0;
        for (int u = 0; u < now.nodes; u++) {
            for (int v = u + 1; v < now.nodes; v++) {
                int direct = far.between(u, v);
                if (direct == NONE) {
                    continue;
                }
                telling.tell(notes, u, v);
                if (telling.reason == Telling.TOLD) {
                    peak.offer(telling.far, direct, u, v);
                } else {
                    untold++;
                }
            }
        }
        return untold;
    }

    /** Counts the nodes that are the lowest of those they hang together with. */
    private int parts() {
        far.follow(now);
        int lowest = 0;
        for (int v = 0; v < now.nodes; v++) {
            int first = 0;
            while (first < v && far.between(first, v) == NONE) {
                first++;
            }
            if (first == v) {
                lowest++;
            }
        }
        return lowest;
    }

    private int writtenNotes() {
        int written = 0;
        for (int v = 0; v < now.nodes; v++) {
            if (notes[v].written) {
                written++;
            }
        }
        return written;
    }

    private int freshNotes() {
        int fresh = 0;
        for (int v = 0; v < now.nodes; v++) {
            if (isFresh(v)) {
                fresh++;
            }
        }
        return fresh;
    }

    private int nodesInNotes() {
        int all = 0;
        for (int v = 0; v < now.nodes; v++) {
            if (notes[v].written) {
                all += Integer.bitCount(notes[v].bunch);
            }
        }
        return all;
    }

    /** Nodes, links, levels and DRAW. */
    private static final class Net {
        int nodes;
        int links;
        int draw;
        /** Another number whenever links may have changed, so that tables made from them know. */
        int version;
        /** 0 where there is no link; each link stands twice, by (u, v) and by (v, u). */
        final int[] lengths;
        final int[] levels;

        Net() {
            nodes = FEWEST_NODES;
            draw = 1;
            version = 1;
            lengths = new int[MOST_NODES * MOST_NODES];
            levels = new int[MOST_NODES];
        }

        boolean has(int node) {
            return node >= 0 && node < nodes;
        }

        int lengthOf(int u, int v) {
            return has(u) && has(v) ? lengths[cell(u, v)] : 0;
        }

        int levelOf(int node) {
            return node >= 0 && node < nodes ? levels[node] : 0;
        }

        boolean hasRoomFor(int u, int v) {
            return links < MOST_LINKS || (has(u) && has(v) && lengths[cell(u, v)] > 0);
        }

        /** Length 0 takes the link away. */
        void setLength(int u, int v, int length) {
            if (!has(u) || !has(v) || u == v) {
                return;
            }
            if (lengths[cell(u, v)] > 0) {
                links--;
            }
            if (length > 0) {
                links++;
            }
            lengths[cell(u, v)] = length;
            lengths[cell(v, u)] = length;
            version++;
        }

        void setLevel(int node, int level) {
            if (has(node)) {
                levels[node] = level;
            }
        }

        /** The cell of a link by its number, lower node first; NONE if there is no such link. */
        int cellOfLink(int link) {
            if (link < 0 || link >= links) {
                return NONE;
            }
            int left = link;
            for (int u = 0; u < nodes; u++) {
                for (int v = u + 1; v < nodes; v++) {
                    if (lengths[cell(u, v)] > 0) {
                        if (left == 0) {
                            return cell(u, v);
                        }
                        left--;
                    }
                }
            }
            return NONE;
        }

        int nodesOfLevel(int level) {
            int found = 0;
            for (int v = 0; v < nodes; v++) {
                if (levels[v] == level) {
                    found++;
                }
            }
            return found;
        }

        void drawLevels(int seed) {
            draw = seed;
            for (int v = 0; v < nodes; v++) {
                draw = draw * 69069 + 1;
                int rest = (draw >>> 16) % 8;
                if (rest == 0) {
                    levels[v] = 2;
                } else {
                    levels[v] = rest <= 2 ? 1 : 0;
                }
            }
        }

        /** Nodes without links, all of level 0; DRAW stays. */
        void startWith(int count) {
            if (count < FEWEST_NODES || count > MOST_NODES) {
                return;
            }
            nodes = count;
            links = 0;
            Arrays.fill(lengths, 0);
            Arrays.fill(levels, 0);
            version++;
        }

        void copyFrom(Net other) {
            nodes = other.nodes;
            links = other.links;
            draw = other.draw;
            System.arraycopy(other.lengths, 0, lengths, 0, lengths.length);
            System.arraycopy(other.levels, 0, levels, 0, levels.length);
            version++;
        }
    }

    /** The distances of all nodes by the links that were added. */
    private static final class Far {
        /** Stands for no way; more than any way, and small enough to be summed. */
        private static final int BEYOND = 1000000;

        private int nodes;
        private int seen;
        private final int[][] table;

        Far() {
            table = new int[MOST_NODES][MOST_NODES];
        }

        void follow(Net net) {
            if (seen == net.version) {
                return;
            }
            clear(net.nodes);
            for (int u = 0; u < nodes; u++) {
                for (int v = u + 1; v < nodes; v++) {
                    int length = net.lengthOf(u, v);
                    if (length > 0) {
                        add(u, v, length);
                    }
                }
            }
            seen = net.version;
        }

        void clear(int count) {
            nodes = Math.min(count, MOST_NODES);
            for (int v = 0; v < nodes; v++) {
                Arrays.fill(table[v], BEYOND);
                table[v][v] = 0;
            }
        }

        int between(int u, int v) {
            if (u < 0 || u >= nodes || v < 0 || v >= nodes) {
                return NONE;
            }
            return table[u][v] < BEYOND ? table[u][v] : NONE;
        }

        /** A shortest way goes by the new link once at most, from one side or from the other. */
        void add(int u, int v, int length) {
            if (u < 0 || u >= nodes || v < 0 || v >= nodes) {
                return;
            }
            for (int a = 0; a < nodes; a++) {
                int[] row = table[a];
                int throughU = row[u] + length;
                int throughV = row[v] + length;
                for (int b = 0; b < nodes; b++) {
                    int shorter = Math.min(throughU + table[v][b], throughV + table[u][b]);
                    row[b] = Math.min(row[b], shorter);
                }
            }
        }
    }

    /** The links that are left when the net is thinned, and the distances by them. */
    private static final class Thinning {
        int size;
        final Far far;
        private int seen;
        private int times;
        private int links;
        private final int[] order;
        /** To each node the set of those to which its link is taken. */
        private final int[] taken;

        Thinning() {
            far = new Far();
            order = new int[MOST_LINKS];
            taken = new int[MOST_NODES];
        }

        boolean takes(int u, int v) {
            if (u < 0 || u >= MOST_NODES || v < 0 || v >= MOST_NODES) {
                return false;
            }
            return (taken[u] & (1 << v)) != 0;
        }

        void follow(Net net, int t) {
            if (seen == net.version && times == t) {
                return;
            }
            sortLinks(net);
            clear(net.nodes);
            for (int i = 0; i < links; i++) {
                int u = order[i] / MOST_NODES;
                int v = order[i] % MOST_NODES;
                int length = net.lengthOf(u, v);
                int by = far.between(u, v);
                if (by == NONE || by > t * length) {
                    take(u, v, length);
                }
            }
            seen = net.version;
            times = t;
        }

        private void take(int u, int v, int length) {
            if (u < 0 || u >= MOST_NODES || v < 0 || v >= MOST_NODES) {
                return;
            }
            taken[u] |= 1 << v;
            taken[v] |= 1 << u;
            far.add(u, v, length);
            size++;
        }

        private void clear(int nodes) {
            size = 0;
            Arrays.fill(taken, 0);
            far.clear(nodes);
        }

        private void sortLinks(Net net) {
            links = 0;
            for (int u = 0; u < net.nodes; u++) {
                for (int v = u + 1; v < net.nodes; v++) {
                    if (net.lengthOf(u, v) > 0 && links < MOST_LINKS) {
                        insert(net, u, v);
                    }
                }
            }
        }

        /** Links come by their numbers, so one of the same length stays behind those that are there. */
        private void insert(Net net, int u, int v) {
            int length = net.lengthOf(u, v);
            int place = links;
            while (place > 0 && lengthAt(net, place - 1) > length) {
                order[place] = order[place - 1];
                place--;
            }
            order[place] = cell(u, v);
            links++;
        }

        private int lengthAt(Net net, int place) {
            return net.lengthOf(order[place] / MOST_NODES, order[place] % MOST_NODES);
        }
    }

    /** What a node knows: its nearest at each level, its bunch, and how far these are. */
    private static final class Note {
        boolean written;
        int bunch;
        private final int[] nearestNodes;
        private final int[] nearestFars;
        /** NONE for a node that is not in the bunch. */
        private final int[] fars;

        Note() {
            nearestNodes = new int[LEVELS];
            nearestFars = new int[LEVELS];
            fars = new int[MOST_NODES];
        }

        int nearestAt(int level) {
            return level >= 0 && level < LEVELS ? nearestNodes[level] : NONE;
        }

        int nearestFarAt(int level) {
            return level >= 0 && level < LEVELS ? nearestFars[level] : NONE;
        }

        boolean holds(int w) {
            return farOf(w) != NONE;
        }

        int farOf(int w) {
            return written && w >= 0 && w < MOST_NODES ? fars[w] : NONE;
        }

        void write(Net net, Far far, int node) {
            written = true;
            for (int level = 0; level < LEVELS; level++) {
                findNearest(net, far, node, level);
            }
            bunch = 0;
            for (int w = 0; w < MOST_NODES; w++) {
                fars[w] = NONE;
                int distance = far.between(node, w);
                if (distance != NONE && isNear(distance, net.levelOf(w))) {
                    fars[w] = distance;
                    bunch |= 1 << w;
                }
            }
        }

        private void findNearest(Net net, Far far, int node, int level) {
            nearestNodes[level] = NONE;
            nearestFars[level] = NONE;
            for (int w = 0; w < net.nodes; w++) {
                int distance = far.between(node, w);
                if (distance == NONE || net.levelOf(w) < level) {
                    continue;
                }
                if (nearestNodes[level] == NONE || distance < nearestFars[level]) {
                    nearestNodes[level] = w;
                    nearestFars[level] = distance;
                }
            }
        }

        /** Is a node of that level, so far away, nearer than the nearest of the level above? */
        private boolean isNear(int distance, int level) {
            int above = nearestFarAt(level + 1);
            return above == NONE || distance < above;
        }

        /** Blank notes bear nothing; bunches are the same where all of fars is. */
        boolean bearsSameAs(Note other) {
            if (!written || !other.written) {
                return false;
            }
            for (int level = 0; level < LEVELS; level++) {
                if (nearestNodes[level] != other.nearestNodes[level]
                        || nearestFars[level] != other.nearestFars[level]) {
                    return false;
                }
            }
            for (int w = 0; w < MOST_NODES; w++) {
                if (fars[w] != other.fars[w]) {
                    return false;
                }
            }
            return true;
        }

        void copyFrom(Note other) {
            written = other.written;
            bunch = other.bunch;
            System.arraycopy(other.nearestNodes, 0, nearestNodes, 0, LEVELS);
            System.arraycopy(other.nearestFars, 0, nearestFars, 0, LEVELS);
            System.arraycopy(other.fars, 0, fars, 0, MOST_NODES);
        }
    }

    /** How far two nodes are by their notes alone, or why that cannot be told. */
    private static final class Telling {
        static final int TOLD = 0;
        private static final int BLANK = 1;
        private static final int NO_NEAREST = 2;
        private static final int NOT_IN_BUNCH = 3;

        int reason;
        int far;
        int by;
        int level;
        /** The node into whose note was looked last. */
        int last;

        void tell(Note[] notes, int first, int second) {
            int u = first;
            int v = second;
            for (int i = 0; i < LEVELS; i++) {
                level = i;
                reason = look(notes, u, v);
                if (reason != NOT_IN_BUNCH) {
                    return;
                }
                int other = u;
                u = v;
                v = other;
            }
        }

        private int look(Note[] notes, int u, int v) {
            last = u;
            if (!notes[u].written) {
                return BLANK;
            }
            by = notes[u].nearestAt(level);
            if (by == NONE) {
                return NO_NEAREST;
            }
            last = v;
            if (!notes[v].written) {
                return BLANK;
            }
            if (!notes[v].holds(by)) {
                return NOT_IN_BUNCH;
            }
            far = notes[u].nearestFarAt(level) + notes[v].farOf(by);
            return TOLD;
        }
    }

    /** The greatest of the fractions that were offered, the first of like ones. */
    private static final class Peak {
        int above;
        int below;
        int u;
        int v;
        int met;

        void clear() {
            met = 0;
        }

        void offer(int top, int bottom, int first, int second) {
            if (met == 0 || top * below > above * bottom) {
                above = top;
                below = bottom;
                u = first;
                v = second;
            }
            met++;
        }
    }

    /** The nets as they were ahead of the latest acts, in a ring. */
    private static final class Past {
        int size;
        private int top;
        private final Net[] ring;

        Past() {
            ring = new Net[MOST_UNDONE];
            for (int i = 0; i < MOST_UNDONE; i++) {
                ring[i] = new Net();
            }
        }

        void push(Net net) {
            ring[top].copyFrom(net);
            top = (top + 1) % MOST_UNDONE;
            size = Math.min(size + 1, MOST_UNDONE);
        }

        void pop(Net net) {
            if (size == 0) {
                return;
            }
            top = (top + MOST_UNDONE - 1) % MOST_UNDONE;
            size--;
            net.copyFrom(ring[top]);
        }
    }

    /** A net with its notes, kept. */
    private static final class Slot {
        boolean filled;
        final Net net;
        final Note[] notes;

        Slot() {
            net = new Net();
            notes = blankNotes();
        }
    }

    /** The letters, and how they are read: token by token, each looked at before it is passed. */
    private static final class Text {
        private static final int WORD = 1, DIGITS = 2, SIGN = 3, END = 4;

        int size;
        int clauses;
        boolean startsAnew;
        private int kind;
        private int begin;
        private int end;
        private final int[] letters;

        Text() {
            letters = new int[MOST_LETTERS];
        }

        void append(int letter) {
            if (size < MOST_LETTERS) {
                letters[size] = letter;
                size++;
            }
        }

        /** Does the clauses on a net; answers the place of the fault that stops it, or NONE. */
        int readInto(Net net) {
            clauses = 0;
            startsAnew = false;
            end = 0;
            pass();
            for (int i = 0; i < MOST_CLAUSES; i++) {
                if (!readClause(net)) {
                    return begin;
                }
                clauses++;
                if (kind == END) {
                    return NONE;
                }
                if (!isSemicolon() || clauses == MOST_CLAUSES) {
                    return begin;
                }
                pass();
            }
            return begin;
        }

        /** False: the token that stands now is the fault. */
        private boolean readClause(Net net) {
            if (isWord("net")) {
                return readNet(net);
            }
            if (isWord("link")) {
                return readLink(net);
            }
            return isWord("level") && readLevel(net);
        }

        private boolean readNet(Net net) {
            pass();
            int count = number(FEWEST_NODES, MOST_NODES);
            if (count == NONE) {
                return false;
            }
            net.startWith(count);
            startsAnew = true;
            pass();
            return true;
        }

        private boolean readLink(Net net) {
            pass();
            int u = number(0, net.nodes - 1);
            if (u == NONE) {
                return false;
            }
            pass();
            int v = number(0, net.nodes - 1);
            if (v == NONE || v == u || !net.hasRoomFor(u, v)) {
                return false;
            }
            pass();
            int length = number(1, LONGEST);
            if (length == NONE) {
                return false;
            }
            net.setLength(u, v, length);
            pass();
            return true;
        }

        private boolean readLevel(Net net) {
            pass();
            int node = number(0, net.nodes - 1);
            if (node == NONE) {
                return false;
            }
            pass();
            int level = number(0, LEVELS - 1);
            if (level == NONE) {
                return false;
            }
            net.setLevel(node, level);
            pass();
            return true;
        }

        /** Goes on to the next token. */
        private void pass() {
            begin = end;
            while (begin < size && letters[begin] == ' ') {
                begin++;
            }
            kind = kindAt(begin);
            end = begin;
            if (kind == END) {
                return;
            }
            end++;
            while (kind != SIGN && end < size && kindAt(end) == kind) {
                end++;
            }
        }

        private int kindAt(int place) {
            if (place < 0 || place >= size) {
                return END;
            }
            int letter = letters[place];
            if (letter >= 'a' && letter <= 'z') {
                return WORD;
            }
            return letter >= '0' && letter <= '9' ? DIGITS : SIGN;
        }

        private boolean isSemicolon() {
            return kind == SIGN && letters[begin] == ';';
        }

        private boolean isWord(String word) {
            if (kind != WORD || end - begin != word.length()) {
                return false;
            }
            for (int i = 0; i < word.length(); i++) {
                if (letters[begin + i] != word.charAt(i)) {
                    return false;
                }
            }
            return true;
        }

        /** The number that stands now; NONE: there is none, it is too long or out of bounds. */
        private int number(int least, int most) {
            if (kind != DIGITS || end - begin > 2) {
                return NONE;
            }
            int value = 0;
            for (int i = begin; i < end; i++) {
                value = value * 10 + letters[i] - '0';
            }
            return value >= least && value <= most ? value : NONE;
        }
    }
}
