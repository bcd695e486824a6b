import java.util.ArrayDeque;
import java.util.ArrayList;
import java.util.Arrays;
import java.util.Deque;
import java.util.HashMap;
import java.util.List;
import java.util.Map;
import java.util.TreeMap;
import java.util.TreeSet;
import java.util.regex.Matcher;
import java.util.regex.Pattern;

/** The document a second time, in other terms: maps, whole copies, exceptions; nothing is kept ready. */
final class Model {
    private static final int NONE = -1, UNKNOWN = -2, OUTSIDE = -3, NOT = -4, FULL = -5;

    private static final class Refused extends RuntimeException {
        private static final long serialVersionUID = 1L;
        final int answer;

        Refused(int answer) {
            super(null, null, false, false);
            this.answer = answer;
        }
    }

    private record Nearest(int node, int far) { }

    private record Written(List<Nearest> nearest, Map<Integer, Integer> bunch) { }

    private record Told(int far, int by, int level, int reason, int last) { }

    private static final class State {
        int n = 2;
        int draw = 1;
        TreeMap<Integer, Integer> links = new TreeMap<>();
        int[] levels = new int[12];

        State copy() {
            State other = new State();
            other.n = n;
            other.draw = draw;
            other.links = new TreeMap<>(links);
            other.levels = levels.clone();
            return other;
        }
    }

    private record Kept(State state, Map<Integer, Written> notes) { }

    private State state = new State();
    private Map<Integer, Written> notes = new HashMap<>();
    private final Deque<State> past = new ArrayDeque<>();
    private final Map<Integer, Kept> kept = new HashMap<>();
    private String text = "";

    /** Answers a call by its name; the face's methods are all of ints. */
    int call(String name, int... a) {
        try {
            switch (name) {
                case "type": return type(a[0]);
                case "erase": return erase();
                case "fault": return read(state.copy()).fault;
                case "net": return net();
                case "link": return link(a[0], a[1]);
                case "level": node(a[0]); return state.levels[a[0]];
                case "join": return join(a[0], a[1], a[2]);
                case "cut": return cut(a[0], a[1]);
                case "lift": return lift(a[0], a[1]);
                case "draw": return draw(a[0]);
                case "thin": return thin(a[0]);
                case "undo": return undo();
                case "keep": return keep(a[0]);
                case "back": return back(a[0]);
                case "distance": node(a[0]); node(a[1]); return far(state.links, a[0], a[1]);
                case "nearest": return nearest(a[0], a[1], a[2]);
                case "bunch": return bunch(a[0], a[1]);
                case "next": node(a[0]); node(a[1]); return step(a[0], a[1]);
                case "thinned": return thinned(a[0], a[1]);
                case "worst": return worst(a[0], a[1]);
                case "note": node(a[0]); notes.put(a[0], write(a[0])); return notes.get(a[0]).bunch.size();
                case "mend": return mend();
                case "tear": node(a[0]); return notes.remove(a[0]) == null ? 0 : 1;
                case "noted": return noted(a[0], a[1]);
                case "notedFar": return notedFar(a[0], a[1]);
                case "told": return told(a[0], a[1], a[2]);
                case "why": return why(a[0], a[1], a[2]);
                case "route": return route(a[0], a[1], a[2]);
                case "pairs": return pairs(a[0]);
                case "count": return count(a[0]);
                default: throw new IllegalStateException(name);
            }
        } catch (Refused refused) {
            return refused.answer;
        }
    }

    private void node(int v) {
        if (v < 0 || v >= state.n) {
            throw new Refused(UNKNOWN);
        }
    }

    private static void bounds(int value, int least, int most) {
        if (value < least || value > most) {
            throw new Refused(OUTSIDE);
        }
    }

    private static void now(boolean so) {
        if (!so) {
            throw new Refused(NOT);
        }
    }

    /** Links sort by lower node, then by the other. */
    private static int key(int u, int v) {
        return Math.min(u, v) * 100 + Math.max(u, v);
    }

    // ---- the text

    private int type(int letter) {
        bounds(letter, 0, 255);
        if (text.length() == 200) {
            throw new Refused(FULL);
        }
        text += (char) letter;
        return text.length();
    }

    private int erase() {
        int had = text.length();
        text = "";
        return had;
    }

    private static final class Reading {
        int fault = NONE;
        int clauses = 0;
        boolean blanks = false;
    }

    /** Each token is held against what may stand at its place. */
    private Reading read(State s) {
        Reading r = new Reading();
        Matcher tokens = Pattern.compile("[a-z]+|[0-9]+|[^ ]", Pattern.DOTALL).matcher(text);
        String verb = null;
        List<Integer> values = new ArrayList<>();
        boolean whole = false;
        while (tokens.find()) {
            String token = tokens.group();
            r.fault = tokens.start();
            if (whole) {
                if (!token.equals(";") || r.clauses == 24) {
                    return r;
                }
                whole = false;
                verb = null;
                values.clear();
            } else if (verb == null) {
                if (!List.of("net", "link", "level").contains(token)) {
                    return r;
                }
                verb = token;
            } else {
                if (!token.matches("[0-9]{1,2}") || !fits(s, verb, values, Integer.parseInt(token))) {
                    return r;
                }
                values.add(Integer.parseInt(token));
                if (values.size() == (verb.equals("net") ? 1 : verb.equals("link") ? 3 : 2)) {
                    perform(s, verb, values, r);
                    r.clauses++;
                    whole = true;
                }
            }
        }
        r.fault = whole ? NONE : text.length();
        return r;
    }

    private static boolean fits(State s, String verb, List<Integer> before, int value) {
        if (verb.equals("net")) {
            return value >= 2 && value <= 12;
        }
        if (before.isEmpty()) {
            return value < s.n;
        }
        if (verb.equals("level")) {
            return value <= 2;
        }
        if (before.size() == 2) {
            return value >= 1 && value <= 99;
        }
        int u = before.get(0);
        return value < s.n && value != u && (s.links.size() < 30 || s.links.containsKey(key(u, value)));
    }

    private static void perform(State s, String verb, List<Integer> values, Reading r) {
        if (verb.equals("net")) {
            s.n = values.get(0);
            s.links.clear();
            Arrays.fill(s.levels, 0);
            r.blanks = true;
        } else if (verb.equals("link")) {
            s.links.put(key(values.get(0), values.get(1)), values.get(2));
        } else {
            s.levels[values.get(0)] = values.get(1);
        }
    }

    private int net() {
        State s = state.copy();
        Reading r = read(s);
        now(r.fault == NONE);
        state = s;
        if (r.blanks) {
            notes.clear();
        }
        past.clear();
        kept.clear();
        text = "";
        return r.clauses;
    }

    // ---- acts

    private int link(int link, int what) {
        if (link < 0 || link >= state.links.size()) {
            return UNKNOWN;
        }
        bounds(what, 0, 2);
        int key = new ArrayList<>(state.links.keySet()).get(link);
        return what == 0 ? key / 100 : what == 1 ? key % 100 : state.links.get(key);
    }

    private void act() {
        past.addLast(state.copy());
        if (past.size() > 8) {
            past.removeFirst();
        }
    }

    private int join(int u, int v, int l) {
        node(u);
        node(v);
        if (u == v) {
            return UNKNOWN;
        }
        bounds(l, 1, 99);
        if (state.links.size() == 30 && !state.links.containsKey(key(u, v))) {
            return FULL;
        }
        act();
        state.links.put(key(u, v), l);
        return state.links.size();
    }

    private int cut(int u, int v) {
        node(u);
        node(v);
        now(state.links.containsKey(key(u, v)));
        act();
        return state.links.remove(key(u, v));
    }

    private int lift(int v, int i) {
        node(v);
        bounds(i, 0, 2);
        act();
        int was = state.levels[v];
        state.levels[v] = i;
        return was;
    }

    private int draw(int seed) {
        act();
        long d = seed;
        int lifted = 0;
        for (int v = 0; v < state.n; v++) {
            d = (int) (d * 69069 + 1);
            long rest = Math.floorMod(d >> 16, 8L);
            state.levels[v] = rest == 0 ? 2 : rest == 1 || rest == 2 ? 1 : 0;
            lifted += Math.min(1, state.levels[v]);
        }
        state.draw = (int) d;
        return lifted;
    }

    private TreeMap<Integer, Integer> taken(int t) {
        List<Integer> order = new ArrayList<>(state.links.keySet());
        order.sort((a, b) -> Integer.compare(state.links.get(a), state.links.get(b)));
        TreeMap<Integer, Integer> taken = new TreeMap<>();
        for (int key : order) {
            int far = far(taken, key / 100, key % 100);
            if (far == NONE || far > t * state.links.get(key)) {
                taken.put(key, state.links.get(key));
            }
        }
        return taken;
    }

    private int thin(int t) {
        bounds(t, 1, 9);
        act();
        state.links = taken(t);
        return state.links.size();
    }

    private int undo() {
        now(!past.isEmpty());
        state = past.removeLast();
        return past.size();
    }

    private int keep(int k) {
        bounds(k, 0, 1);
        kept.put(k, new Kept(state.copy(), new HashMap<>(notes)));
        return notes.size();
    }

    private int back(int k) {
        bounds(k, 0, 1);
        now(kept.containsKey(k));
        state = kept.get(k).state.copy();
        notes = new HashMap<>(kept.get(k).notes);
        past.clear();
        return notes.size();
    }

    // ---- how it is

    /** Dijkstra, from one end. */
    private int far(TreeMap<Integer, Integer> links, int from, int to) {
        int[] best = new int[12];
        Arrays.fill(best, Integer.MAX_VALUE);
        best[from] = 0;
        TreeSet<Integer> open = new TreeSet<>();
        open.add(from);
        while (!open.isEmpty()) {
            int at = open.first();
            for (int v : open) {
                at = best[v] < best[at] ? v : at;
            }
            open.remove(at);
            for (Map.Entry<Integer, Integer> link : links.entrySet()) {
                int u = link.getKey() / 100;
                int v = link.getKey() % 100;
                if (u != at && v != at) {
                    continue;
                }
                int other = u + v - at;
                if (best[at] + link.getValue() < best[other]) {
                    best[other] = best[at] + link.getValue();
                    open.add(other);
                }
            }
        }
        return best[to] == Integer.MAX_VALUE ? NONE : best[to];
    }

    private Nearest nearestOf(int v, int level) {
        Nearest best = new Nearest(NONE, NONE);
        for (int w = state.n - 1; w >= 0; w--) {
            int far = far(state.links, v, w);
            if (state.levels[w] >= level && far != NONE && (best.node == NONE || far <= best.far)) {
                best = new Nearest(w, far);
            }
        }
        return best;
    }

    private Written write(int v) {
        List<Nearest> nearest = List.of(nearestOf(v, 0), nearestOf(v, 1), nearestOf(v, 2), nearestOf(v, 3));
        Map<Integer, Integer> bunch = new HashMap<>();
        for (int w = 0; w < state.n; w++) {
            int far = far(state.links, v, w);
            Nearest above = nearest.get(state.levels[w] + 1);
            if (far != NONE && (above.node == NONE || far < above.far)) {
                bunch.put(w, far);
            }
        }
        return new Written(nearest, bunch);
    }

    private int nearest(int v, int level, int what) {
        node(v);
        bounds(level, 0, 2);
        bounds(what, 0, 1);
        return what == 0 ? nearestOf(v, level).node : nearestOf(v, level).far;
    }

    private static int bits(Iterable<Integer> nodes) {
        int set = 0;
        for (int v : nodes) {
            set += 1 << v;
        }
        return set;
    }

    private int bunch(int v, int what) {
        node(v);
        bounds(what, 0, 1);
        if (what == 0) {
            return bits(write(v).bunch.keySet());
        }
        List<Integer> cluster = new ArrayList<>();
        for (int u = 0; u < state.n; u++) {
            if (write(u).bunch.containsKey(v)) {
                cluster.add(u);
            }
        }
        return bits(cluster);
    }

    private int step(int u, int w) {
        for (int x = 0; x < state.n; x++) {
            Integer length = state.links.get(key(u, x));
            int rest = far(state.links, x, w);
            if (u != w && length != null && rest != NONE && length + rest == far(state.links, u, w)) {
                return x;
            }
        }
        return NONE;
    }

    private int thinned(int t, int link) {
        bounds(t, 1, 9);
        if (link == NONE) {
            return taken(t).size();
        }
        if (link < 0 || link >= state.links.size()) {
            return UNKNOWN;
        }
        return taken(t).containsKey(new ArrayList<>(state.links.keySet()).get(link)) ? 1 : 0;
    }

    private int worst(int t, int what) {
        bounds(t, 1, 9);
        bounds(what, 0, 1);
        TreeMap<Integer, Integer> taken = taken(t);
        int above = 0;
        int below = 0;
        for (int u = 0; u < state.n; u++) {
            for (int v = 0; v < u; v++) {
                int far = far(state.links, u, v);
                int longer = far(taken, u, v);
                if (far != NONE && (below == 0 || (double) longer / far > (double) above / below)) {
                    above = longer;
                    below = far;
                }
            }
        }
        if (below == 0) {
            return NONE;
        }
        for (int part = below; part > 1; part--) {
            if (above % part == 0 && below % part == 0) {
                above /= part;
                below /= part;
            }
        }
        return what == 0 ? above : below;
    }

    // ---- notes

    private boolean fresh(int v) {
        return write(v).equals(notes.get(v));
    }

    private int mend() {
        int mended = 0;
        for (int v = 0; v < state.n; v++) {
            if (!fresh(v)) {
                notes.put(v, write(v));
                mended++;
            }
        }
        return mended;
    }

    private int noted(int v, int what) {
        node(v);
        bounds(what, 0, 7);
        if (what == 0) {
            return fresh(v) ? 1 : 0;
        }
        now(notes.containsKey(v));
        if (what == 7) {
            return bits(notes.get(v).bunch.keySet());
        }
        Nearest nearest = notes.get(v).nearest.get((what - 1) % 3);
        return what <= 3 ? nearest.node : nearest.far;
    }

    private int notedFar(int v, int w) {
        node(v);
        node(w);
        return notes.containsKey(v) ? notes.get(v).bunch.getOrDefault(w, NONE) : NONE;
    }

    private Told tell(int u, int v, int level) {
        if (!notes.containsKey(u)) {
            return new Told(NONE, NONE, level, 1, u);
        }
        Nearest w = notes.get(u).nearest.get(level);
        if (w.node == NONE) {
            return new Told(NONE, NONE, level, 2, u);
        }
        if (!notes.containsKey(v)) {
            return new Told(NONE, NONE, level, 1, v);
        }
        Integer far = notes.get(v).bunch.get(w.node);
        if (far != null) {
            return new Told(far + w.far, w.node, level, NONE, v);
        }
        return level == 2 ? new Told(NONE, NONE, level, 3, v) : tell(v, u, level + 1);
    }

    private int told(int u, int v, int what) {
        node(u);
        node(v);
        bounds(what, 0, 2);
        Told told = tell(u, v, 0);
        return told.reason != NONE ? NONE : what == 0 ? told.far : what == 1 ? told.by : told.level;
    }

    private int why(int u, int v, int what) {
        node(u);
        node(v);
        bounds(what, 0, 2);
        Told told = tell(u, v, 0);
        return told.reason == NONE ? NONE : what == 0 ? told.reason : what == 1 ? told.level : told.last;
    }

    private int route(int u, int v, int k) {
        node(u);
        node(v);
        Told told = tell(u, v, 0);
        now(told.reason == NONE);
        now(far(state.links, u, told.by) != NONE && far(state.links, told.by, v) != NONE);
        List<Integer> way = new ArrayList<>();
        for (int at = u; at != told.by; at = step(at, told.by)) {
            way.add(at);
        }
        for (int at = told.by; at != NONE; at = step(at, v)) {
            way.add(at);
        }
        return k >= 0 && k < way.size() ? way.get(k) : NONE;
    }

    private int pairs(int what) {
        bounds(what, 0, 3);
        int[] best = {NONE, NONE, 0, 0};
        double most = -1;
        for (int u = 0; u < state.n; u++) {
            for (int v = u + 1; v < state.n; v++) {
                int far = far(state.links, u, v);
                if (far == NONE) {
                    continue;
                }
                Told told = tell(u, v, 0);
                best[told.reason == NONE ? 2 : 3]++;
                if (told.reason == NONE && (double) told.far / far > most) {
                    most = (double) told.far / far;
                    best[0] = u;
                    best[1] = v;
                }
            }
        }
        return best[what];
    }

    private int count(int what) {
        bounds(what, 0, 11);
        int found = 0;
        switch (what) {
            case 0: return state.n;
            case 1: return state.links.size();
            case 2:
                TreeSet<Integer> left = new TreeSet<>();
                for (int v = 0; v < state.n; v++) {
                    left.add(v);
                }
                for (; !left.isEmpty(); found++) {
                    int lot = left.first();
                    left.removeIf(v -> far(state.links, lot, v) != NONE);
                }
                return found;
            case 3: return notes.size();
            case 4:
                for (int v = 0; v < state.n; v++) {
                    found += fresh(v) ? 1 : 0;
                }
                return found;
            case 5:
                for (Written written : notes.values()) {
                    found += written.bunch.size();
                }
                return found;
            case 6: return past.size();
            case 7: return text.length();
            case 8: return state.draw;
            default:
                for (int v = 0; v < state.n; v++) {
                    found += state.levels[v] == what - 9 ? 1 : 0;
                }
                return found;
        }
    }
}
