import java.util.ArrayList;
import java.util.Arrays;
import java.util.List;
import java.util.Random;

/**
 * What follows from the document for every net, on drawn nets. No answer is worked out a second
 * time here: the answers of an object are held against one another.
 */
public final class LawsTest {
    private static final int NETS = 400;
    private static final int BEYOND = 1000000;

    private static final Due due = new Due();

    private final int seed;
    private final int n;
    private final int[][] lengths;
    private final int[][] far;

    private LawsTest(int seed) {
        this.seed = seed;
        BunchNotes x = drawn();
        n = x.count(0);
        lengths = lengthsOf(x);
        far = farsOf(x);
    }

    public static void main(String[] args) {
        for (int seed = 0; seed < NETS; seed++) {
            LawsTest net = new LawsTest(seed);
            net.distances();
            net.nexts();
            net.nearestOnes();
            net.bunchesAndClusters();
            net.freshNotes();
            net.toldFromFreshNotes();
            net.untoldFromFreshNotes();
            net.routesFromFreshNotes();
            net.worstPair();
            for (int t = 1; t <= 9; t++) {
                net.thinnedBy(t);
            }
            net.undone();
            net.keptAndGoneBackTo();
            net.toldAsTexts();
        }
        due.end();
    }

    private void holds(String law, boolean so) {
        due.holds("net " + seed + ": " + law, so);
    }

    /** The same net for the same seed; short lengths in half of them, so that many ways are alike. */
    private BunchNotes drawn() {
        Random random = new Random(seed);
        int nodes = 2 + random.nextInt(11);
        int most = Math.min(28, nodes * (nodes - 1) / 2);
        int tries = random.nextInt(most + 1) + random.nextInt(nodes);
        int longest = random.nextBoolean() ? 4 : 99;
        BunchNotes x = Nets.of("net " + nodes);
        int links = 0;
        for (int i = 0; i < tries && links < most; i++) {
            links = x.join(random.nextInt(nodes), random.nextInt(nodes), 1 + random.nextInt(longest));
        }
        if (random.nextBoolean()) {
            x.draw(random.nextInt());
        } else {
            for (int i = random.nextInt(6); i > 0; i--) {
                x.lift(random.nextInt(nodes), random.nextInt(3));
            }
        }
        return x;
    }

    /** BEYOND, where there is no link. */
    private static int[][] lengthsOf(BunchNotes x) {
        int[][] table = new int[x.count(0)][x.count(0)];
        for (int[] row : table) {
            Arrays.fill(row, BEYOND);
        }
        for (int link = 0; link < x.count(1); link++) {
            int u = x.link(link, 0);
            int v = x.link(link, 1);
            table[u][v] = x.link(link, 2);
            table[v][u] = table[u][v];
        }
        return table;
    }

    /** BEYOND, where there is no way. */
    private static int[][] farsOf(BunchNotes x) {
        int nodes = x.count(0);
        int[][] table = new int[nodes][nodes];
        for (int u = 0; u < nodes; u++) {
            for (int v = 0; v < nodes; v++) {
                int distance = x.distance(u, v);
                table[u][v] = distance == BunchNotes.NONE ? BEYOND : distance;
            }
        }
        return table;
    }

    private boolean way(int u, int v) {
        return far[u][v] < BEYOND;
    }

    /** The distance by the best first link; with lengths of 1 or more there is one such table only. */
    private void distances() {
        int parts = 0;
        for (int u = 0; u < n; u++) {
            boolean lowest = true;
            for (int v = 0; v < n; v++) {
                int best = BEYOND;
                for (int x = 0; x < n; x++) {
                    best = Math.min(best, lengths[u][x] + far[x][v]);
                }
                holds("distance of " + u + ", " + v, far[u][v] == (u == v ? 0 : best));
                holds("as far from there to here", far[u][v] == far[v][u]);
                lowest &= v >= u || !way(u, v);
            }
            parts += lowest ? 1 : 0;
        }
        holds("parts", drawn().count(2) == parts);
    }

    private void nexts() {
        BunchNotes x = drawn();
        for (int u = 0; u < n; u++) {
            for (int w = 0; w < n; w++) {
                int want = BunchNotes.NONE;
                for (int y = n - 1; y >= 0; y--) {
                    if (u != w && way(u, w) && lengths[u][y] + far[y][w] == far[u][w]) {
                        want = y;
                    }
                }
                holds("next from " + u + " to " + w, x.next(u, w) == want);
            }
        }
    }

    private void nearestOnes() {
        BunchNotes x = drawn();
        for (int v = 0; v < n; v++) {
            holds("each is its own nearest at level 0", x.nearest(v, 0, 0) == v && x.nearest(v, 0, 1) == 0);
            for (int level = 1; level < 3; level++) {
                int w = x.nearest(v, level, 0);
                int distance = x.nearest(v, level, 1);
                boolean best = w == BunchNotes.NONE ? distance == BunchNotes.NONE
                        : far[v][w] == distance && x.level(w) >= level;
                for (int y = 0; y < n; y++) {
                    boolean centre = x.level(y) >= level && way(v, y);
                    best &= !centre || (w != BunchNotes.NONE
                            && (far[v][y] > distance || (far[v][y] == distance && y >= w)));
                }
                holds("nearest of " + v + " at level " + level, best);
            }
        }
    }

    private void bunchesAndClusters() {
        BunchNotes x = drawn();
        int[] bunches = new int[n];
        int[] clusters = new int[n];
        for (int v = 0; v < n; v++) {
            bunches[v] = x.bunch(v, 0);
            clusters[v] = x.bunch(v, 1);
        }
        for (int v = 0; v < n; v++) {
            holds("each is in its own bunch", (bunches[v] >> v & 1) == 1);
            holds("no others than nodes", bunches[v] >> n == 0 && clusters[v] >> n == 0);
            for (int w = 0; w < n; w++) {
                boolean in = (bunches[v] >> w & 1) == 1;
                holds("clusters are bunches seen from the centre", in == ((clusters[w] >> v & 1) == 1));
                int level = x.level(w);
                int above = level == 2 ? BunchNotes.NONE : x.nearest(v, level + 1, 1);
                holds(w + " in the bunch of " + v,
                        in == (way(v, w) && (above == BunchNotes.NONE || far[v][w] < above)));
            }
        }
    }

    private void freshNotes() {
        BunchNotes x = drawn();
        holds("all are written", x.mend() == n && x.mend() == 0 && x.count(3) == n && x.count(4) == n);
        int all = 0;
        for (int v = 0; v < n; v++) {
            int bunch = x.bunch(v, 0);
            all += Integer.bitCount(bunch);
            holds("a note bears the bunch", x.noted(v, 7) == bunch && x.note(v) == Integer.bitCount(bunch));
            for (int what = 0; what < 3; what++) {
                holds("a note bears the nearest", x.noted(v, 1 + what) == x.nearest(v, what, 0)
                        && x.noted(v, 4 + what) == x.nearest(v, what, 1));
            }
            for (int w = 0; w < n; w++) {
                int want = (bunch >> w & 1) == 1 ? far[v][w] : BunchNotes.NONE;
                holds("a note bears the distance of " + w + " from " + v, x.notedFar(v, w) == want);
            }
        }
        holds("nodes of all bunches", x.count(5) == all);
    }

    /** At level i what fresh notes tell is at most 2i + 1 times as far, and never nearer. */
    private void toldFromFreshNotes() {
        BunchNotes x = drawn();
        x.mend();
        for (int u = 0; u < n; u++) {
            for (int v = 0; v < n; v++) {
                int told = x.told(u, v, 0);
                if (told == BunchNotes.NONE) {
                    continue;
                }
                int by = x.told(u, v, 1);
                int level = x.told(u, v, 2);
                holds("told of " + u + ", " + v + " at level " + level, way(u, v)
                        && far[u][v] <= told && told <= (2 * level + 1) * far[u][v]);
                holds("told by " + by, told == far[u][by] + far[by][v]);
            }
        }
    }

    /** Fresh notes of nodes that have a way are untold only where a level has no centre. */
    private void untoldFromFreshNotes() {
        BunchNotes x = drawn();
        x.mend();
        for (int u = 0; u < n; u++) {
            boolean centre = x.noted(u, 3) != BunchNotes.NONE;
            for (int v = 0; v < n; v++) {
                int reason = x.why(u, v, 0);
                if (way(u, v)) {
                    holds("untold " + u + ", " + v, reason == BunchNotes.NONE || (reason == 2 && !centre));
                } else {
                    holds("no way, so untold " + u + ", " + v, reason == 2 || reason == 3);
                }
            }
        }
    }

    private void routesFromFreshNotes() {
        for (int u = 0; u < n; u++) {
            BunchNotes x = drawn();
            x.mend();
            for (int v = 0; v < n; v++) {
                int told = x.told(u, v, 0);
                if (told == BunchNotes.NONE) {
                    holds("no route of the untold", x.route(u, v, 0) == BunchNotes.NOT);
                    continue;
                }
                List<Integer> way = routeOf(x, u, v);
                int gone = 0;
                for (int k = 1; k < way.size(); k++) {
                    gone += lengths[way.get(k - 1)][way.get(k)];
                }
                holds("the route of " + u + ", " + v + " is as long as told, " + way, gone == told);
                holds("it goes from " + u + " by w to " + v + ", " + way, way.get(0) == u
                        && way.contains(x.told(u, v, 1)) && way.get(way.size() - 1) == v);
            }
        }
    }

    private static List<Integer> routeOf(BunchNotes x, int u, int v) {
        List<Integer> way = new ArrayList<>();
        int at = x.route(u, v, 0);
        while (at != BunchNotes.NONE && way.size() < 24) {
            way.add(at);
            at = x.route(u, v, way.size());
        }
        return way;
    }

    private void worstPair() {
        BunchNotes x = drawn();
        x.mend();
        int u = x.pairs(0);
        int v = x.pairs(1);
        int told = 0;
        int untold = 0;
        for (int a = 0; a < n; a++) {
            for (int b = a + 1; b < n; b++) {
                int there = x.told(a, b, 0);
                if (!way(a, b)) {
                    continue;
                }
                if (there == BunchNotes.NONE) {
                    untold++;
                    continue;
                }
                told++;
                long more = (long) there * far[u][v] - (long) x.told(u, v, 0) * far[a][b];
                boolean ahead = a < u || (a == u && b < v);
                holds("pairs: " + u + ", " + v + " is the worst", ahead ? more < 0 : more <= 0);
            }
        }
        holds("pairs: how many", x.pairs(2) == told && x.pairs(3) == untold && (told == 0) == (u == BunchNotes.NONE));
    }

    private void thinnedBy(int t) {
        BunchNotes x = drawn();
        int left = x.thinned(t, BunchNotes.NONE);
        int above = x.worst(t, 0);
        int below = x.worst(t, 1);
        int parts = x.count(2);
        holds("thinned by " + t, x.thin(t) == left && x.count(1) == left && x.count(2) == parts);
        boolean met = false;
        int[][] after = farsOf(x);
        for (int u = 0; u < n; u++) {
            for (int v = u + 1; v < n; v++) {
                holds("no new way, none gone", way(u, v) == (after[u][v] < BEYOND));
                if (way(u, v)) {
                    holds("no way is longer than " + t + " times", after[u][v] <= t * far[u][v]);
                    int more = after[u][v] * below - far[u][v] * above;
                    holds("none is worse than worst", more <= 0);
                    met |= more == 0;
                }
            }
        }
        holds("worst is met", met || above == BunchNotes.NONE);
        holds("worst is in least terms", above == BunchNotes.NONE || least(above, below));
        holds("thinned again", x.thin(t) == left && (above == BunchNotes.NONE || x.worst(t, 0) == 1));
    }

    private static boolean least(int above, int below) {
        for (int part = 2; part <= below; part++) {
            if (above % part == 0 && below % part == 0) {
                return false;
            }
        }
        return true;
    }

    private void undone() {
        Random random = new Random(seed);
        BunchNotes x = drawn();
        x.note(random.nextInt(n));
        List<Integer> before = trace(x);
        int acts = 1 + random.nextInt(8);
        int could = Math.min(8, x.count(6) + acts);
        for (int i = 0; i < acts; i++) {
            act(x, random);
        }
        for (int i = 1; i <= acts; i++) {
            holds("undone", x.undo() == could - i);
        }
        holds("as it was, " + acts + " acts undone", trace(x).equals(before));
    }

    private void keptAndGoneBackTo() {
        Random random = new Random(seed);
        BunchNotes x = drawn();
        x.note(random.nextInt(n));
        List<Integer> before = trace(x);
        x.keep(seed % 2);
        for (int i = 0; i < 20; i++) {
            act(x, random);
            x.note(random.nextInt(n));
            x.tear(random.nextInt(n));
        }
        holds("gone back to", x.back(seed % 2) == 1 && trace(x).equals(before) && x.count(6) == 0);
    }

    /** An act that is never refused. */
    private void act(BunchNotes x, Random random) {
        int u = random.nextInt(n);
        int v = (u + 1 + random.nextInt(n - 1)) % n;
        int kind = random.nextInt(5);
        if (kind == 0 && x.cut(u, v) > 0) {
            return;
        }
        if (kind == 1 && x.join(u, v, 1 + random.nextInt(99)) > 0) {
            return;
        }
        if (kind == 2) {
            x.draw(random.nextInt());
        } else if (kind == 3) {
            x.thin(1 + random.nextInt(9));
        } else {
            x.lift(u, random.nextInt(3));
        }
    }

    /** Links, levels, DRAW and what notes bear. */
    private List<Integer> trace(BunchNotes x) {
        List<Integer> seen = new ArrayList<>();
        for (int link = 0; link < x.count(1); link++) {
            seen.addAll(List.of(x.link(link, 0), x.link(link, 1), x.link(link, 2)));
        }
        for (int v = 0; v < n; v++) {
            seen.addAll(List.of(x.level(v), x.noted(v, 0), x.noted(v, 2), x.noted(v, 7)));
        }
        seen.add(x.count(8));
        return seen;
    }

    /** A net that is written out as texts and read by another object is the same net. */
    private void toldAsTexts() {
        BunchNotes x = drawn();
        BunchNotes other = new BunchNotes();
        List<String> clauses = clausesOf(x);
        for (int from = 0; from < clauses.size(); from += 14) {
            List<String> some = clauses.subList(from, Math.min(clauses.size(), from + 14));
            Nets.typeAll(other, String.join(";", some));
            holds("read: " + some, other.fault() == BunchNotes.NONE && other.net() == some.size());
        }
        holds("as many nodes", other.count(0) == n);
        for (int v = 0; v < n; v++) {
            holds("the same level", other.level(v) == x.level(v));
            for (int u = 0; u < v; u++) {
                if (lengths[u][v] < BEYOND) {
                    holds("the same link", other.cut(u, v) == lengths[u][v]);
                }
            }
        }
        holds("no other links", other.count(1) == 0);
    }

    private List<String> clausesOf(BunchNotes x) {
        List<String> clauses = new ArrayList<>(List.of("net" + n));
        for (int v = 0; v < n; v++) {
            for (int u = 0; u < v; u++) {
                if (lengths[u][v] < BEYOND) {
                    clauses.add("link" + v + " " + u + " " + lengths[u][v]);
                }
            }
            if (x.level(v) > 0) {
                clauses.add("level" + v + " " + x.level(v));
            }
        }
        return clauses;
    }
}
