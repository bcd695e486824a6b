import java.util.ArrayList;
import java.util.EnumMap;
import java.util.EnumSet;
import java.util.List;
import java.util.Map;
import java.util.Set;

/**
 * "Refused, and nothing changes: ... of several that fit the one that the call names first": each
 * refusal, what it answers, and that an object that refused is as one that was not asked. Also
 * that asking changes nothing, and that each other call leaves alone what it does not name.
 */
public final class RefusedTest {
    private static final int NONE = -1, UNKNOWN = -2, OUTSIDE = -3, NOT = -4, FULL = -5;
    private static final int LEAST = Integer.MIN_VALUE, MOST = Integer.MAX_VALUE;

    private static final Due due = new Due();

    private interface Call {
        int on(BunchNotes x);
    }

    private interface Maker {
        BunchNotes make();
    }

    private record Row(String name, int want, Call call) { }

    private final String state;
    private final Maker maker;
    private final List<Row> rows = new ArrayList<>();
    private final Map<Look, List<Integer>> untouched = new EnumMap<>(Look.class);

    private RefusedTest(String state, Maker maker) {
        this.state = state;
        this.maker = maker;
        for (Look look : Look.values()) {
            untouched.put(look, look.at(maker.make()));
        }
    }

    public static void main(String[] args) {
        atFirst();
        busy();
        full();
        longText();
        leavesAlone();
        due.end();
    }

    // ---- the states

    /** 2 nodes, nothing else. */
    private static void atFirst() {
        RefusedTest t = new RefusedTest("at first", BunchNotes::new);
        t.unknownNodes(2);
        t.unknownLinks(0);
        t.outside();
        t.nodesAheadOfNumbers(2);
        t.row("fault of nothing: net()", NOT, x -> x.net());
        t.row("undo()", NOT, x -> x.undo());
        t.row("back(0)", NOT, x -> x.back(0));
        t.row("back(1)", NOT, x -> x.back(1));
        t.row("cut(0, 1)", NOT, x -> x.cut(0, 1));
        t.row("cut(1, 0)", NOT, x -> x.cut(1, 0));
        t.row("route(0, 1, 0)", NOT, x -> x.route(0, 1, 0));
        t.row("route(0, 0, 0)", NOT, x -> x.route(0, 0, 0));
        t.blankNote(0);
        t.blankNote(1);
        t.row("link(0, 3): UNKNOWN ahead of OUTSIDE", UNKNOWN, x -> x.link(0, 3));
        t.row("thinned(0, 0): OUTSIDE ahead of UNKNOWN", OUTSIDE, x -> x.thinned(0, 0));
        t.row("worst(0, 0), also without a pair", OUTSIDE, x -> x.worst(0, 0));
        t.row("worst(1, 2), also without a pair", OUTSIDE, x -> x.worst(1, 2));
        t.check();
        t.askingChangesNothing(2);
    }

    /** Links, levels, DRAW; notes fresh, old and blank; acts to undo; one slot kept; an unfinished text. */
    private static BunchNotes makeBusy() {
        BunchNotes x = Nets.ring();
        x.note(0);
        x.note(1);
        x.note(3);
        x.join(0, 1, 5);
        x.keep(0);
        x.draw(3);
        x.lift(5, 1);
        x.cut(2, 3);
        x.thin(4);
        x.note(4);
        x.tear(3);
        Nets.typeAll(x, "net 4;level");
        return x;
    }

    private static void busy() {
        RefusedTest t = new RefusedTest("busy", RefusedTest::makeBusy);
        int links = makeBusy().count(1);
        t.unknownNodes(6);
        t.unknownLinks(links);
        t.outside();
        t.nodesAheadOfNumbers(6);
        for (int what : new int[] {-1, 3, LEAST, MOST}) {
            t.row("link(0, " + what + ")", OUTSIDE, x -> x.link(0, what));
            t.row("link(" + links + ", " + what + ")", UNKNOWN, x -> x.link(links, what));
        }
        t.row("thinned(0, " + links + ")", OUTSIDE, x -> x.thinned(0, links));
        t.row("thinned(10, -2)", OUTSIDE, x -> x.thinned(10, -2));
        t.row("net() of an unfinished text", NOT, x -> x.net());
        t.row("back(1)", NOT, x -> x.back(1));
        t.row("cut(2, 3), which went", NOT, x -> x.cut(2, 3));
        t.row("cut(3, 2), which went", NOT, x -> x.cut(3, 2));
        t.row("cut(1, 1)", NOT, x -> x.cut(1, 1));
        t.row("route(0, 5, 0), whose note is blank", NOT, x -> x.route(0, 5, 0));
        t.row("route(5, 0, 0), whose note is blank", NOT, x -> x.route(5, 0, 0));
        t.blankNote(3);
        t.check();
        t.askingChangesNothing(6);
    }

    /** 12 nodes, 30 links, 8 acts to undo, both slots, fresh notes, a text with one link too many. */
    private static BunchNotes makeFull() {
        BunchNotes x = Nets.full();
        x.keep(0);
        x.lift(11, 2);
        x.mend();
        x.keep(1);
        x.join(0, 1, 3);
        Nets.typeAll(x, "link 10 11 7");
        return x;
    }

    private static void full() {
        RefusedTest t = new RefusedTest("full", RefusedTest::makeFull);
        t.unknownNodes(12);
        t.unknownLinks(30);
        t.outside();
        t.nodesAheadOfNumbers(12);
        t.row("a 31st link", FULL, x -> x.join(10, 11, 7));
        t.row("a 31st link, other way round", FULL, x -> x.join(11, 10, 1));
        t.row("a 31st link of length 99", FULL, x -> x.join(4, 5, 99));
        for (int l : new int[] {0, 100, -1, LEAST, MOST}) {
            t.row("join(10, 11, " + l + "): OUTSIDE ahead of FULL", OUTSIDE, x -> x.join(10, 11, l));
        }
        t.row("join(11, 11, 7): UNKNOWN ahead of FULL", UNKNOWN, x -> x.join(11, 11, 7));
        t.row("join(11, 12, 7): UNKNOWN ahead of FULL", UNKNOWN, x -> x.join(11, 12, 7));
        t.row("join(-1, 11, 7): UNKNOWN ahead of FULL", UNKNOWN, x -> x.join(-1, 11, 7));
        t.row("join(11, 11, 0): UNKNOWN ahead of both", UNKNOWN, x -> x.join(11, 11, 0));
        t.row("join(12, 11, 100): UNKNOWN ahead of both", UNKNOWN, x -> x.join(12, 11, 100));
        t.row("net() with a 31st link", NOT, x -> x.net());
        t.row("cut(10, 11)", NOT, x -> x.cut(10, 11));
        t.check();
        t.askingChangesNothing(12);
    }

    /** 200 letters that make a text; few other things, to stay below 512 calls. */
    private static BunchNotes makeLong() {
        BunchNotes x = new BunchNotes();
        x.keep(0);
        x.join(0, 1, 8);
        x.note(0);
        String text = "net 5;level 4 2;link 0 4 77";
        Nets.typeAll(x, " ".repeat(200 - text.length()) + text);
        return x;
    }

    private static void longText() {
        RefusedTest t = new RefusedTest("200 letters", RefusedTest::makeLong);
        for (int letter : new int[] {0, 32, ';', 'a', 255}) {
            t.row("type(" + letter + ")", FULL, x -> x.type(letter));
        }
        for (int letter : new int[] {-1, 256, LEAST, MOST}) {
            t.row("type(" + letter + "): OUTSIDE ahead of FULL", OUTSIDE, x -> x.type(letter));
        }
        t.row("back(1)", NOT, x -> x.back(1));
        t.row("route(0, 1, 0)", NOT, x -> x.route(0, 1, 0));
        t.blankNote(1);
        t.check();
    }

    // ---- rows for any state

    private void row(String name, int want, Call call) {
        rows.add(new Row(name, want, call));
    }

    private void unknownNodes(int n) {
        for (int bad : new int[] {-1, -2, n, n + 1, 13, 32, LEAST, MOST}) {
            row("level(" + bad + ")", UNKNOWN, x -> x.level(bad));
            row("lift(" + bad + ", 1)", UNKNOWN, x -> x.lift(bad, 1));
            row("nearest(" + bad + ", 0, 0)", UNKNOWN, x -> x.nearest(bad, 0, 0));
            row("bunch(" + bad + ", 0)", UNKNOWN, x -> x.bunch(bad, 0));
            row("bunch(" + bad + ", 1)", UNKNOWN, x -> x.bunch(bad, 1));
            row("note(" + bad + ")", UNKNOWN, x -> x.note(bad));
            row("tear(" + bad + ")", UNKNOWN, x -> x.tear(bad));
            row("noted(" + bad + ", 0)", UNKNOWN, x -> x.noted(bad, 0));
            row("noted(" + bad + ", 7): UNKNOWN ahead of NOT", UNKNOWN, x -> x.noted(bad, 7));
            for (int other : new int[] {0, n - 1, bad}) {
                unknownPair(bad, other);
                unknownPair(other, bad);
            }
        }
    }

    private void unknownPair(int u, int v) {
        String both = "(" + u + ", " + v + ")";
        row("join" + both, UNKNOWN, x -> x.join(u, v, 5));
        row("cut" + both + ": UNKNOWN ahead of NOT", UNKNOWN, x -> x.cut(u, v));
        row("distance" + both, UNKNOWN, x -> x.distance(u, v));
        row("next" + both, UNKNOWN, x -> x.next(u, v));
        row("notedFar" + both, UNKNOWN, x -> x.notedFar(u, v));
        row("told" + both, UNKNOWN, x -> x.told(u, v, 0));
        row("why" + both, UNKNOWN, x -> x.why(u, v, 0));
        row("route" + both + ": UNKNOWN ahead of NOT", UNKNOWN, x -> x.route(u, v, 0));
        row("route" + both + " with k -1", UNKNOWN, x -> x.route(u, v, -1));
    }

    private void unknownLinks(int links) {
        for (int bad : new int[] {-2, links, links + 1, 30, LEAST, MOST}) {
            row("link(" + bad + ", 0)", UNKNOWN, x -> x.link(bad, 0));
            row("thinned(1, " + bad + ")", UNKNOWN, x -> x.thinned(1, bad));
            row("thinned(9, " + bad + ")", UNKNOWN, x -> x.thinned(9, bad));
        }
        row("link(NONE, 0)", UNKNOWN, x -> x.link(NONE, 0));
    }

    /** Numbers just outside of their bounds and far outside, all else as it may be. */
    private void outside() {
        for (int bad : new int[] {-1, 256, LEAST, MOST}) {
            row("type(" + bad + ")", OUTSIDE, x -> x.type(bad));
        }
        for (int bad : new int[] {0, 100, -1, LEAST, MOST}) {
            row("join(0, 1, " + bad + ")", OUTSIDE, x -> x.join(0, 1, bad));
        }
        for (int bad : new int[] {-1, 3, LEAST, MOST}) {
            row("lift(0, " + bad + ")", OUTSIDE, x -> x.lift(0, bad));
            row("nearest(0, " + bad + ", 0)", OUTSIDE, x -> x.nearest(0, bad, 0));
            row("told(0, 1, " + bad + ")", OUTSIDE, x -> x.told(0, 1, bad));
            row("why(0, 1, " + bad + ")", OUTSIDE, x -> x.why(0, 1, bad));
        }
        for (int bad : new int[] {0, 10, -1, LEAST, MOST}) {
            row("thin(" + bad + ")", OUTSIDE, x -> x.thin(bad));
            row("thinned(" + bad + ", NONE)", OUTSIDE, x -> x.thinned(bad, NONE));
            row("thinned(" + bad + ", 30)", OUTSIDE, x -> x.thinned(bad, 30));
            row("worst(" + bad + ", 0)", OUTSIDE, x -> x.worst(bad, 0));
            row("worst(" + bad + ", 2)", OUTSIDE, x -> x.worst(bad, 2));
        }
        for (int bad : new int[] {-1, 2, LEAST, MOST}) {
            row("keep(" + bad + ")", OUTSIDE, x -> x.keep(bad));
            row("back(" + bad + ")", OUTSIDE, x -> x.back(bad));
            row("nearest(0, 0, " + bad + ")", OUTSIDE, x -> x.nearest(0, 0, bad));
            row("nearest(0, 3, " + bad + ")", OUTSIDE, x -> x.nearest(0, 3, bad));
            row("bunch(0, " + bad + ")", OUTSIDE, x -> x.bunch(0, bad));
            row("worst(1, " + bad + ")", OUTSIDE, x -> x.worst(1, bad));
        }
        for (int bad : new int[] {-1, 8, LEAST, MOST}) {
            row("noted(0, " + bad + ")", OUTSIDE, x -> x.noted(0, bad));
            row("noted(1, " + bad + ")", OUTSIDE, x -> x.noted(1, bad));
        }
        for (int bad : new int[] {-1, 4, LEAST, MOST}) {
            row("pairs(" + bad + ")", OUTSIDE, x -> x.pairs(bad));
        }
        for (int bad : new int[] {-1, 12, LEAST, MOST}) {
            row("count(" + bad + ")", OUTSIDE, x -> x.count(bad));
        }
    }

    /** Where a wrong node and a wrong number both fit, these calls name UNKNOWN first. */
    private void nodesAheadOfNumbers(int n) {
        for (int bad : new int[] {-1, n}) {
            row("join(" + bad + ", 0, 0)", UNKNOWN, x -> x.join(bad, 0, 0));
            row("join(0, " + bad + ", 100)", UNKNOWN, x -> x.join(0, bad, 100));
            row("lift(" + bad + ", 3)", UNKNOWN, x -> x.lift(bad, 3));
            row("lift(" + bad + ", -1)", UNKNOWN, x -> x.lift(bad, -1));
            row("nearest(" + bad + ", 3, 0)", UNKNOWN, x -> x.nearest(bad, 3, 0));
            row("nearest(" + bad + ", 0, 2)", UNKNOWN, x -> x.nearest(bad, 0, 2));
            row("bunch(" + bad + ", 2)", UNKNOWN, x -> x.bunch(bad, 2));
            row("noted(" + bad + ", 8)", UNKNOWN, x -> x.noted(bad, 8));
            row("noted(" + bad + ", -1)", UNKNOWN, x -> x.noted(bad, -1));
            row("told(" + bad + ", 0, 3)", UNKNOWN, x -> x.told(bad, 0, 3));
            row("told(0, " + bad + ", -1)", UNKNOWN, x -> x.told(0, bad, -1));
            row("why(" + bad + ", 0, 3)", UNKNOWN, x -> x.why(bad, 0, 3));
            row("why(0, " + bad + ", -1)", UNKNOWN, x -> x.why(0, bad, -1));
        }
        row("join(0, 0, 5), the same node", UNKNOWN, x -> x.join(0, 0, 5));
        row("join(1, 1, 0), the same node", UNKNOWN, x -> x.join(1, 1, 0));
        row("join(1, 1, 100), the same node", UNKNOWN, x -> x.join(1, 1, 100));
    }

    private void blankNote(int node) {
        for (int what = 1; what <= 7; what++) {
            int asked = what;
            row("noted(" + node + ", " + what + ") of a blank note", NOT, x -> x.noted(node, asked));
        }
        row("noted(" + node + ", 8): OUTSIDE ahead of NOT", OUTSIDE, x -> x.noted(node, 8));
        row("noted(" + node + ", -1): OUTSIDE ahead of NOT", OUTSIDE, x -> x.noted(node, -1));
    }

    // ---- that nothing has changed

    private void check() {
        for (Row row : rows) {
            due.is(state + ": " + row.name, row.call.on(maker.make()), row.want);
            sameBut(row.name, row.call, EnumSet.noneOf(Look.class));
        }
    }

    /** The object behind the call, and one that was not asked, look the same from all sides but these. */
    private void sameBut(String name, Call call, Set<Look> changing) {
        for (Look look : Look.values()) {
            if (!changing.contains(look)) {
                BunchNotes x = maker.make();
                call.on(x);
                due.holds(state + ": " + name + " leaves " + look, look.at(x).equals(untouched.get(look)));
            }
        }
    }

    private void askingChangesNothing(int n) {
        List<Row> asked = new ArrayList<>();
        asked.add(new Row("fault()", 0, x -> x.fault()));
        for (int i = 0; i < 12; i++) {
            int a = i;
            int b = (i + 1) % n;
            int u = i % n;
            asked.add(new Row("count " + a, 0, x -> x.count(a)));
            asked.add(new Row("link " + a, 0, x -> x.link(a, a % 3)));
            asked.add(new Row("level " + a, 0, x -> x.level(a)));
            asked.add(new Row("distance " + a, 0, x -> x.distance(u, b)));
            asked.add(new Row("nearest " + a, 0, x -> x.nearest(u, a % 3, a % 2)));
            asked.add(new Row("bunch " + a, 0, x -> x.bunch(u, a % 2)));
            asked.add(new Row("next " + a, 0, x -> x.next(u, b)));
            asked.add(new Row("thinned " + a, 0, x -> x.thinned(a, a - 2)));
            asked.add(new Row("worst " + a, 0, x -> x.worst(a, a % 2)));
            asked.add(new Row("noted " + a, 0, x -> x.noted(u, a % 8)));
            asked.add(new Row("notedFar " + a, 0, x -> x.notedFar(u, b)));
            asked.add(new Row("told " + a, 0, x -> x.told(u, b, a % 3)));
            asked.add(new Row("why " + a, 0, x -> x.why(u, b, a % 3)));
            asked.add(new Row("route " + a, 0, x -> x.route(u, b, a % 4)));
            asked.add(new Row("pairs " + a, 0, x -> x.pairs(a % 4)));
        }
        for (Row row : asked) {
            sameBut("asking " + row.name, row.call, EnumSet.noneOf(Look.class));
        }
    }

    // ---- what calls that are not refused leave alone

    private static void leavesAlone() {
        RefusedTest t = new RefusedTest("busy", RefusedTest::makeBusy);
        t.sameBut("type()", x -> x.type('x'), EnumSet.of(Look.TEXT));
        t.sameBut("erase()", x -> x.erase(), EnumSet.of(Look.TEXT));
        Set<Look> byActs = EnumSet.of(Look.NET, Look.PAST);
        t.sameBut("join()", x -> x.join(0, 2, 7), byActs);
        t.sameBut("cut()", x -> x.cut(3, 4), byActs);
        t.sameBut("lift()", x -> x.lift(2, 2), byActs);
        t.sameBut("draw()", x -> x.draw(77), byActs);
        t.sameBut("thin()", x -> x.thin(9), byActs);
        t.sameBut("undo()", x -> x.undo(), byActs);
        t.sameBut("join() and undo()", x -> x.join(0, 2, 7) + x.undo(), EnumSet.noneOf(Look.class));
        t.sameBut("draw() and undo()", x -> x.draw(77) + x.undo(), EnumSet.noneOf(Look.class));
        t.sameBut("thin() and undo()", x -> x.thin(9) + x.undo(), EnumSet.noneOf(Look.class));
        t.sameBut("keep(0)", x -> x.keep(0), EnumSet.of(Look.KEPT_0));
        t.sameBut("keep(1)", x -> x.keep(1), EnumSet.of(Look.KEPT_1));
        t.sameBut("back(0)", x -> x.back(0), EnumSet.of(Look.NET, Look.NOTES, Look.PAST));
        t.sameBut("note()", x -> x.note(5), EnumSet.of(Look.NOTES));
        t.sameBut("mend()", x -> x.mend(), EnumSet.of(Look.NOTES));
        t.sameBut("tear()", x -> x.tear(0), EnumSet.of(Look.NOTES));
    }
}
