/** The terms ahead of the promises, parts 1 and 2, sentence by sentence: each at its edges. */
public final class TermsTest {
    private static final int NONE = -1, UNKNOWN = -2, OUTSIDE = -3, NOT = -4, FULL = -5;
    /** 69069 times this is 1, in 32 bits: DRAW can be led to any number. */
    private static final int BACKWARDS = inverse(69069);

    private static final Due due = new Due();

    private TermsTest() {
    }

    public static void main(String[] args) {
        nodes();
        atFirst();
        linksOfUnlikeNodes();
        lengths();
        thirtyLinks();
        numbersOfLinks();
        levels();
        distances();
        parts();
        nearest();
        nearestOfLevelOrMore();
        bunches();
        bunchesAtLikeDistance();
        clusters();
        sets();
        blankNotes();
        notesStay();
        freshNotes();
        toldAtEachLevel();
        toldChangesSides();
        toldFromNotesAlone();
        reasons();
        nexts();
        thinnedAtTheBound();
        thinnedOrder();
        thinnedByTakenOnes();
        drawnRests();
        drawnNumbers();
        due.end();
    }

    // ---- part 1

    /** "NODES are 0 to n less 1 (n 2 to 12 ...)". */
    private static void nodes() {
        for (int n = 2; n <= 12; n++) {
            BunchNotes x = Nets.of("net " + n);
            String of = " of " + n;
            due.is("nodes" + of, x.count(0), n);
            due.is("level of the last" + of, x.level(n - 1), 0);
            due.is("level of one more" + of, x.level(n), UNKNOWN);
            due.is("level(-1)" + of, x.level(-1), UNKNOWN);
            due.is("the last to itself" + of, x.distance(n - 1, n - 1), 0);
            due.is("one more to itself" + of, x.distance(n, n), UNKNOWN);
            due.is("join the last" + of, x.join(n - 1, 0, 5), 1);
            due.is("join one more" + of, x.join(n, 0, 5), UNKNOWN);
            due.is("join to one more" + of, x.join(0, n, 5), UNKNOWN);
            due.is("lift the last" + of, x.lift(n - 1, 2), 0);
            due.is("lift one more" + of, x.lift(n, 2), UNKNOWN);
            due.is("note of the last" + of, x.note(n - 1), 1);
            due.is("note of one more" + of, x.note(n), UNKNOWN);
            due.is("told of the last" + of, x.told(n - 1, n - 1, 0), 0);
            due.is("told of one more" + of, x.told(n - 1, n, 0), UNKNOWN);
            due.is("tear the last" + of, x.tear(n - 1), 1);
            due.is("tear one more" + of, x.tear(n), UNKNOWN);
            due.is("mend all" + of, x.mend(), n);
            due.is("cut the last" + of, x.cut(0, n - 1), 5);
            due.is("cut one more" + of, x.cut(0, n), UNKNOWN);
        }
        for (int n : new int[] {0, 1, 13, 99}) {
            BunchNotes x = new BunchNotes();
            Nets.typeAll(x, "net " + n);
            due.is("net() of " + n + " nodes", x.net(), NOT);
            due.is("nodes still", x.count(0), 2);
        }
    }

    /** "2 at first", "none at first", "0 at first", "blank at first", "1 at first", "no letters". */
    private static void atFirst() {
        BunchNotes x = new BunchNotes();
        due.is("nodes", x.count(0), 2);
        due.is("level(1)", x.level(1), 0);
        due.is("level(2)", x.level(2), UNKNOWN);
        due.is("links", x.count(1), 0);
        due.is("link(0, 0)", x.link(0, 0), UNKNOWN);
        due.is("nodes of level 0", x.count(9), 2);
        due.is("nodes of level 1", x.count(10), 0);
        due.is("nodes of level 2", x.count(11), 0);
        due.is("notes", x.count(3), 0);
        due.is("DRAW", x.count(8), 1);
        due.is("letters", x.count(7), 0);
        due.is("acts", x.count(6), 0);
    }

    /** "between two unlike NODES, one at most". */
    private static void linksOfUnlikeNodes() {
        BunchNotes x = new BunchNotes();
        due.is("join(0, 0)", x.join(0, 0, 5), UNKNOWN);
        due.is("join(1, 1)", x.join(1, 1, 5), UNKNOWN);
        due.is("links", x.count(1), 0);
        due.is("join(0, 1)", x.join(0, 1, 5), 1);
        due.is("join(1, 0)", x.join(1, 0, 6), 1);
        due.is("join(0, 1) again", x.join(0, 1, 6), 1);
        due.is("its length", x.link(0, 2), 6);
        due.is("a second one", x.link(1, 0), UNKNOWN);
        due.is("cut", x.cut(0, 1), 6);
        due.is("no other is left", x.cut(1, 0), NOT);
    }

    /** "of a LENGTH 1 to 99". */
    private static void lengths() {
        BunchNotes x = new BunchNotes();
        due.is("length 0", x.join(0, 1, 0), OUTSIDE);
        due.is("length 100", x.join(0, 1, 100), OUTSIDE);
        due.is("links", x.count(1), 0);
        for (int l = 1; l <= 99; l++) {
            due.is("length " + l, x.join(0, 1, l), 1);
            due.is("it is " + l, x.link(0, 2), l);
        }
    }

    /** "30 at most". */
    private static void thirtyLinks() {
        BunchNotes x = Nets.of("net 12");
        int links = 0;
        for (int u = 11; u > 0; u--) {
            for (int v = 0; v < u && links < 30; v++) {
                links++;
                due.is("link " + links, x.join(u, v, links), links);
            }
        }
        due.is("the 31st", x.join(0, 1, 1), FULL);
        due.is("links", x.count(1), 30);
        due.is("another length for one that is there", x.join(0, 11, 99), 30);
        due.is("cut one", x.cut(0, 11), 99);
        due.is("a 30th again", x.join(0, 1, 1), 30);
        due.is("the 31st again", x.join(0, 11, 1), FULL);
        due.is("link(29)", x.link(29, 2), 11);
        due.is("link(30)", x.link(30, 2), UNKNOWN);
        due.is("thinned(1, 29)", x.thinned(1, 29), 1);
        due.is("thinned(1, 30)", x.thinned(1, 30), UNKNOWN);
        due.is("undo the 30th", x.undo(), 7);
        due.is("there is room again", x.join(0, 11, 1), 30);
    }

    /** "numbered 0 on by their lower NODES, of like ones by the other ones". */
    private static void numbersOfLinks() {
        BunchNotes x = Nets.of("net 12");
        int[][] joined = {{11, 10}, {5, 0}, {2, 1}, {0, 11}, {1, 10}, {0, 2}, {10, 2}};
        int[][] sorted = {{0, 2}, {0, 5}, {0, 11}, {1, 2}, {1, 10}, {2, 10}, {10, 11}};
        for (int i = 0; i < joined.length; i++) {
            x.join(joined[i][0], joined[i][1], 99 - i);
        }
        for (int i = 0; i < sorted.length; i++) {
            due.is("lower node of link " + i, x.link(i, 0), sorted[i][0]);
            due.is("other node of link " + i, x.link(i, 1), sorted[i][1]);
        }
        due.is("length of link 0", x.link(0, 2), 94);
        due.is("length of link 6", x.link(6, 2), 99);
        due.is("no link 7", x.link(7, 0), UNKNOWN);
        x.cut(0, 5);
        due.is("numbers close up", x.link(1, 1), 11);
        due.is("no link 6", x.link(6, 0), UNKNOWN);
    }

    /** "Each NODE has a LEVEL 0, 1, 2". */
    private static void levels() {
        BunchNotes x = Nets.of("net 12");
        for (int v = 0; v < 12; v++) {
            due.is("lift to -1", x.lift(v, -1), OUTSIDE);
            due.is("lift to 3", x.lift(v, 3), OUTSIDE);
            due.is("level yet", x.level(v), 0);
            due.is("lift to 2", x.lift(v, 2), 0);
            due.is("level 2", x.level(v), 2);
            due.is("nodes of level 2", x.count(11), v + 1);
            due.is("nodes of level 0", x.count(9), 11 - v);
        }
        for (int v = 0; v < 12; v++) {
            due.is("lift to 1", x.lift(v, 1), 2);
            due.is("nodes of level 1", x.count(10), v + 1);
        }
    }

    /** "0 of a NODE and itself; none, if there is no WAY". */
    private static void distances() {
        BunchNotes x = new BunchNotes();
        due.is("without a way", x.distance(0, 1), NONE);
        due.is("of itself, without links", x.distance(1, 1), 0);
        x.join(0, 1, 99);
        due.is("by a link", x.distance(1, 0), 99);
        due.is("of itself, with links", x.distance(0, 0), 0);
        x.cut(0, 1);
        due.is("the way is gone", x.distance(0, 1), NONE);
        BunchNotes row = Nets.row(99, 99, 99, 99, 99, 99, 99, 99, 99, 99, 99);
        due.is("eleven links of 99", row.distance(0, 11), 1089);
        due.is("and back", row.distance(11, 0), 1089);
        row.join(0, 11, 1);
        due.is("the other way round", row.distance(0, 11), 1);
        due.is("half of it", row.distance(5, 6), 99);
        due.is("round by the short one", row.distance(1, 10), 199);
        BunchNotes around = Nets.of("net 3;link 0 1 99;link 0 2 49;link 1 2 49");
        due.is("two links are shorter", around.distance(0, 1), 98);
        around.join(0, 2, 50);
        due.is("as long", around.distance(0, 1), 99);
        around.join(0, 2, 51);
        due.is("longer", around.distance(0, 1), 99);
    }

    /** "NODES between which there are WAYS hang together; how many such lots there are". */
    private static void parts() {
        for (int n = 2; n <= 12; n++) {
            BunchNotes x = Nets.of("net " + n);
            due.is("no links: parts of " + n, x.count(2), n);
            for (int v = n - 1; v > 0; v--) {
                x.join(v, v - 1, v);
                due.is("parts of " + n + ", joined down to " + (v - 1), x.count(2), v);
            }
            x.join(0, n - 1, 50);
            due.is("a ring is one part", x.count(2), 1);
        }
    }

    /** "of all NODES ... (v itself, too) the one of the least DISTANCE, of like ones the lowest; none". */
    private static void nearest() {
        BunchNotes x = Nets.of("net 5;link 2 0 7;link 2 1 7;link 2 3 6");
        due.is("level 0: itself", x.nearest(2, 0, 0), 2);
        due.is("level 0: 0 far", x.nearest(2, 0, 1), 0);
        due.is("none of level 1", x.nearest(2, 1, 0), NONE);
        due.is("none of level 1, how far", x.nearest(2, 1, 1), NONE);
        x.lift(1, 1);
        x.lift(4, 1);
        due.is("one of level 1", x.nearest(2, 1, 0), 1);
        x.lift(0, 1);
        due.is("of like ones the lowest", x.nearest(2, 1, 0), 0);
        due.is("how far", x.nearest(2, 1, 1), 7);
        x.lift(3, 1);
        due.is("a higher one that is nearer", x.nearest(2, 1, 0), 3);
        due.is("how far", x.nearest(2, 1, 1), 6);
        x.lift(2, 1);
        due.is("v itself", x.nearest(2, 1, 0), 2);
        due.is("how far", x.nearest(2, 1, 1), 0);
        due.is("one without a way", x.nearest(4, 1, 0), 4);
        due.is("none of level 2", x.nearest(4, 2, 0), NONE);
        x.lift(4, 2);
        due.is("of level 2, but no way", x.nearest(2, 2, 0), NONE);
        due.is("of level 2, itself", x.nearest(4, 2, 0), 4);
    }

    /** "of all NODES of LEVEL i or more". */
    private static void nearestOfLevelOrMore() {
        BunchNotes x = Nets.row(5, 5, 5);
        x.lift(1, 2);
        x.lift(2, 1);
        due.is("level 1 from 0: one of level 2 counts", x.nearest(0, 1, 0), 1);
        due.is("level 2 from 3: one of level 1 does not", x.nearest(3, 2, 0), 1);
        due.is("how far", x.nearest(3, 2, 1), 10);
        due.is("level 1 from 3", x.nearest(3, 1, 0), 2);
        due.is("level 0 from 1: one of level 2 counts", x.nearest(1, 0, 0), 1);
    }

    /** "all NODES w to which it has a WAY (v itself, too) ... or if there is no such NEAREST". */
    private static void bunches() {
        BunchNotes x = Nets.of("net 5;link 0 1 5;link 1 2 5;link 2 3 5");
        due.is("no centres: all with a way", x.bunch(0, 0), Nets.set(0, 1, 2, 3));
        due.is("alone", x.bunch(4, 0), Nets.set(4));
        x.lift(4, 2);
        due.is("a centre without a way", x.bunch(0, 0), Nets.set(0, 1, 2, 3));
        due.is("a centre alone", x.bunch(4, 0), Nets.set(4));
        x.lift(3, 2);
        due.is("all that are nearer, and the centre", x.bunch(0, 0), Nets.set(0, 1, 2, 3));
        due.is("from the centre", x.bunch(3, 0), Nets.set(3));
        x.lift(0, 2);
        due.is("both centres; of the others those that are nearer", x.bunch(1, 0), Nets.set(0, 1, 3));
        x.lift(0, 1);
        x.lift(1, 1);
        due.is("of level 1: against the nearest of level 2", x.bunch(2, 0), Nets.set(2, 3));
        due.is("of level 1: nearer than 15", x.bunch(0, 0), Nets.set(0, 1, 3));
        x.lift(3, 1);
        due.is("no level 2: all of level 1", x.bunch(2, 0), Nets.set(0, 1, 2, 3));
        for (int v = 0; v < 5; v++) {
            due.is("itself is in it: " + v, x.bunch(v, 0) >> v & 1, 1);
        }
    }

    /** "that are nearer to v than its NEAREST at the LEVEL above that of w": as near is not nearer. */
    private static void bunchesAtLikeDistance() {
        BunchNotes x = Nets.of("net 3;link 0 1 6;link 0 2 6;level 1 1");
        due.is("as near as the centre", x.bunch(0, 0), Nets.set(0, 1));
        x.join(0, 2, 5);
        due.is("nearer by 1", x.bunch(0, 0), Nets.set(0, 1, 2));
        x.join(0, 2, 7);
        due.is("farther by 1", x.bunch(0, 0), Nets.set(0, 1));
        BunchNotes y = Nets.of("net 3;link 0 1 6;link 0 2 6;level 1 2;level 2 1");
        due.is("level 1, as near as level 2", y.bunch(0, 0), Nets.set(0, 1));
        y.join(0, 2, 5);
        due.is("level 1, nearer by 1", y.bunch(0, 0), Nets.set(0, 1, 2));
        due.is("the nearest of level 1 is 2", y.nearest(0, 1, 0), 2);
        y.lift(2, 2);
        y.join(0, 2, 99);
        due.is("level 2: there is none above", y.bunch(0, 0), Nets.set(0, 1, 2));
    }

    /** "The CLUSTER of w: all NODES in whose BUNCH it is". */
    private static void clusters() {
        BunchNotes x = Nets.ring();
        x.lift(0, 1);
        for (int w = 0; w < 6; w++) {
            int cluster = 0;
            for (int v = 0; v < 6; v++) {
                cluster |= (x.bunch(v, 0) >> w & 1) << v;
            }
            due.is("cluster of " + w, x.bunch(w, 1), cluster);
        }
        BunchNotes y = Nets.of("net 3;link 0 1 4;link 1 2 4;level 2 2");
        due.is("bunch of the centre", y.bunch(2, 0), Nets.set(2));
        due.is("cluster of the centre", y.bunch(2, 1), Nets.set(0, 1, 2));
        due.is("bunch of the end", y.bunch(0, 0), Nets.set(0, 1, 2));
        due.is("cluster of the end", y.bunch(0, 1), Nets.set(0));
    }

    /** "SETS of NODES are told as bits". */
    private static void sets() {
        BunchNotes x = Nets.of("net 12");
        for (int v = 0; v < 12; v++) {
            due.is("bunch of a lone " + v, x.bunch(v, 0), 1 << v);
            due.is("cluster of a lone " + v, x.bunch(v, 1), 1 << v);
        }
        BunchNotes all = Nets.row(1, 1, 1, 1, 1, 1, 1, 1, 1, 1, 1);
        due.is("a bunch of all twelve", all.bunch(11, 0), 4095);
        due.is("a cluster of all twelve", all.bunch(0, 1), 4095);
        due.is("a note of all twelve", all.note(5), 12);
        due.is("its set", all.noted(5, 7), 4095);
    }

    // ---- part 2

    /** "Each NODE has a NOTE, blank at first." */
    private static void blankNotes() {
        BunchNotes x = Nets.of("net 12;link 0 11 5");
        for (int v = 0; v < 12; v++) {
            due.is("fresh " + v, x.noted(v, 0), 0);
            due.is("bunch " + v, x.noted(v, 7), NOT);
            due.is("far " + v, x.notedFar(v, v), NONE);
            due.is("torn " + v, x.tear(v), 0);
        }
        due.is("notes", x.count(3), 0);
        due.is("fresh ones", x.count(4), 0);
        due.is("nodes in them", x.count(5), 0);
    }

    /** "so it stays, whatever changes, till it is written again". */
    private static void notesStay() {
        BunchNotes x = Nets.ring();
        x.note(0);
        int[] borne = {0, 2, 4, 0, 8, 8, Nets.set(0, 1, 4, 5)};
        bears(x, "when written", borne);
        x.join(0, 4, 1);
        bears(x, "behind join()", borne);
        x.cut(0, 1);
        bears(x, "behind cut()", borne);
        x.lift(0, 2);
        bears(x, "behind lift()", borne);
        x.draw(99);
        bears(x, "behind draw()", borne);
        x.thin(9);
        bears(x, "behind thin()", borne);
        x.undo();
        bears(x, "behind undo()", borne);
        x.note(1);
        bears(x, "behind another's note()", borne);
        x.tear(1);
        bears(x, "behind another's tear()", borne);
        Nets.typeAll(x, "link 0 2 3;level 4 0");
        x.net();
        bears(x, "behind a text that leaves the nodes", borne);
        x.keep(1);
        x.tear(0);
        x.back(1);
        bears(x, "behind back()", borne);
        x.mend();
        due.is("written again by mend()", x.notedFar(0, 0), x.distance(0, 0));
        due.is("its bunch", x.noted(0, 7), x.bunch(0, 0));
        Nets.typeAll(x, "net 6");
        x.net();
        due.is("behind net 6", x.noted(0, 7), NOT);
    }

    private static void bears(BunchNotes x, String when, int... want) {
        for (int what = 1; what <= 7; what++) {
            due.is("noted(0, " + what + ") " + when, x.noted(0, what), want[what - 1]);
        }
        due.is("notedFar(0, 4) " + when, x.notedFar(0, 4), 8);
        due.is("notedFar(0, 2) " + when, x.notedFar(0, 2), NONE);
    }

    /** "FRESH, if it is not blank and would be the same, written now": each thing borne counts. */
    private static void freshNotes() {
        BunchNotes x = Nets.row(5, 5, 5);
        due.is("blank", x.noted(0, 0), 0);
        x.note(0);
        due.is("just written", x.noted(0, 0), 1);
        x.join(2, 3, 6);
        due.is("another distance in the bunch", x.noted(0, 0), 0);
        x.join(2, 3, 5);
        due.is("and back", x.noted(0, 0), 1);
        x.cut(2, 3);
        due.is("one less in the bunch", x.noted(0, 0), 0);
        x.undo();
        due.is("and back by undo()", x.noted(0, 0), 1);
        x.lift(3, 1);
        due.is("a centre, the same bunch", x.noted(0, 0), 0);
        due.is("the bunch is the same", x.bunch(0, 0), x.noted(0, 7));
        x.note(0);
        x.lift(3, 2);
        due.is("a centre of level 2, the same bunch", x.noted(0, 0), 0);
        x.note(0);
        x.lift(3, 2);
        due.is("the same level again", x.noted(0, 0), 1);
        x.lift(2, 1);
        due.is("another nearest of level 1", x.noted(0, 0), 0);
        x.tear(0);
        due.is("torn", x.noted(0, 0), 0);
        BunchNotes y = Nets.of("net 5;link 0 1 4;link 0 2 4;link 0 3 3;level 1 2;level 2 2");
        y.note(0);
        y.lift(1, 1);
        due.is("another nearest of level 2, as far", y.nearest(0, 2, 0), 2);
        due.is("as far", y.nearest(0, 2, 1), y.noted(0, 6));
        due.is("is not fresh", y.noted(0, 0), 0);
        y.lift(1, 2);
        y.join(3, 4, 50);
        due.is("a link beyond the bunch", y.noted(0, 0), 1);
        y.join(1, 2, 1);
        due.is("a link that shortens nothing from here", y.noted(0, 0), 1);
    }

    /** "TOLD, by w, at that LEVEL": 0, 1 and 2, each with how far. */
    private static void toldAtEachLevel() {
        BunchNotes x = Nets.row(1, 5, 5, 1);
        x.lift(1, 1);
        x.lift(2, 2);
        x.lift(3, 1);
        x.mend();
        told(x, 0, 0, 0, 0, 0);
        told(x, 1, 0, 1, 1, 0);
        told(x, 0, 1, 1, 1, 1);
        told(x, 0, 4, 12, 2, 2);
        told(x, 4, 0, 12, 2, 2);
        told(x, 2, 4, 6, 2, 0);
        told(x, 4, 2, 6, 2, 1);
    }

    private static void told(BunchNotes x, int u, int v, int far, int by, int level) {
        String both = "told(" + u + ", " + v + ", ";
        due.is(both + "0)", x.told(u, v, 0), far);
        due.is(both + "1)", x.told(u, v, 1), by);
        due.is(both + "2)", x.told(u, v, 2), level);
        due.is("why(" + u + ", " + v + ", 0)", x.why(u, v, 0), NONE);
        due.is("why(" + u + ", " + v + ", 1)", x.why(u, v, 1), NONE);
        due.is("why(" + u + ", " + v + ", 2)", x.why(u, v, 2), NONE);
    }

    private static void untold(BunchNotes x, int u, int v, int reason, int level, int last) {
        String both = "why(" + u + ", " + v + ", ";
        due.is(both + "0)", x.why(u, v, 0), reason);
        due.is(both + "1)", x.why(u, v, 1), level);
        due.is(both + "2)", x.why(u, v, 2), last);
        due.is("told(" + u + ", " + v + ", 0)", x.told(u, v, 0), NONE);
        due.is("told(" + u + ", " + v + ", 1)", x.told(u, v, 1), NONE);
        due.is("told(" + u + ", " + v + ", 2)", x.told(u, v, 2), NONE);
        due.is("route(" + u + ", " + v + ", 0)", x.route(u, v, 0), NOT);
    }

    /** "u and v change places": at level 1 the nearest is that of v, at level 2 that of u again. */
    private static void toldChangesSides() {
        BunchNotes x = Nets.of("net 5;link 0 1 3;link 0 4 20;link 3 4 2;level 1 1;level 3 1");
        x.mend();
        told(x, 0, 4, 2 + 22, 3, 1);
        told(x, 4, 0, 3 + 23, 1, 1);
        BunchNotes y = Nets.of("net 6;link 0 1 1;link 0 2 2;link 2 3 9;link 3 4 2;link 4 5 1");
        y.lift(1, 1);
        y.lift(5, 1);
        y.lift(2, 2);
        y.lift(4, 2);
        y.mend();
        due.is("nearest of level 1 to 0", y.nearest(0, 1, 0), 1);
        due.is("nearest of level 2 to 0", y.nearest(0, 2, 0), 2);
        due.is("nearest of level 2 to 5", y.nearest(5, 2, 0), 4);
        told(y, 0, 5, 2 + 12, 2, 2);
        told(y, 5, 0, 1 + 13, 4, 2);
        y.join(0, 2, 4);
        y.note(0);
        told(y, 0, 5, 4 + 12, 2, 2);
    }

    /** "from their NOTES alone": the net may be another by then, or have no way at all. */
    private static void toldFromNotesAlone() {
        BunchNotes x = Nets.row(5, 5);
        x.mend();
        x.cut(0, 1);
        x.cut(1, 2);
        told(x, 0, 2, 10, 0, 0);
        x.join(0, 2, 1);
        told(x, 0, 2, 10, 0, 0);
        x.note(0);
        told(x, 0, 2, 10, 0, 0);
        x.note(2);
        told(x, 0, 2, 1, 0, 0);
        told(x, 0, 1, 5, 0, 0);
        untold(x, 1, 0, 2, 1, 0);
    }

    /** "UNTOLD, where a NOTE is blank (1), where there is no such NEAREST (2), not in the BUNCH at LEVEL 2 (3)". */
    private static void reasons() {
        BunchNotes x = Nets.of("net 4;link 0 1 5;link 2 3 5");
        untold(x, 0, 0, 1, 0, 0);
        untold(x, 0, 1, 1, 0, 0);
        x.note(0);
        untold(x, 0, 1, 1, 0, 1);
        untold(x, 1, 0, 1, 0, 1);
        told(x, 0, 0, 0, 0, 0);
        x.mend();
        untold(x, 0, 2, 2, 1, 2);
        untold(x, 2, 0, 2, 1, 0);
        x.lift(3, 1);
        x.mend();
        untold(x, 0, 2, 2, 2, 0);
        untold(x, 2, 0, 2, 1, 0);
        x.lift(1, 1);
        x.mend();
        untold(x, 2, 0, 2, 2, 2);
        x.lift(1, 2);
        x.mend();
        untold(x, 0, 2, 3, 2, 2);
        untold(x, 2, 0, 2, 2, 2);
        x.lift(3, 2);
        x.mend();
        untold(x, 2, 0, 3, 2, 0);
        x.tear(0);
        untold(x, 0, 2, 1, 0, 0);
        untold(x, 2, 0, 1, 0, 0);
    }

    /** "of all NODES x ... the lowest; none, if there is no WAY". */
    private static void nexts() {
        BunchNotes x = Nets.of("net 6;link 0 1 3;link 0 2 2;link 0 3 1;link 1 4 1;link 2 4 2;link 3 4 3");
        due.is("three ways, as long", x.next(0, 4), 1);
        due.is("from the other side", x.next(4, 0), 1);
        x.join(0, 1, 4);
        due.is("two ways, as long", x.next(0, 4), 2);
        x.join(2, 4, 1);
        due.is("one is shortest", x.next(0, 4), 2);
        x.join(0, 4, 3);
        due.is("the link itself is as long, the lowest is another", x.next(0, 4), 2);
        x.join(0, 4, 2);
        due.is("the link itself", x.next(0, 4), 4);
        due.is("to itself", x.next(4, 4), NONE);
        due.is("without a way", x.next(0, 5), NONE);
        due.is("without a way, from there", x.next(5, 0), NONE);
        due.is("a lone one to itself", x.next(5, 5), NONE);
    }

    /** "or their DISTANCE by these is more than t times its LENGTH": as much is not more. */
    private static void thinnedAtTheBound() {
        for (int t = 1; t <= 9; t++) {
            BunchNotes x = Nets.row(1, 1, 1, 1, 1, 1, 1, 1, 1, 1);
            x.join(0, t, 1);
            int direct = t == 1 ? 10 : 11;
            due.is("links", x.count(1), direct);
            due.is("t times its length by others: the last of like ones goes, t " + t, x.thinned(t, NONE), 10);
            if (t > 1) {
                due.is("by one time less it is taken, t " + t, x.thinned(t - 1, NONE), 11);
            }
            due.is("t 0", x.thinned(0, NONE), OUTSIDE);
            due.is("t 10", x.thinned(10, NONE), OUTSIDE);
        }
        BunchNotes far = Nets.of("net 3;link 0 1 45;link 1 2 45;link 0 2 90");
        due.is("90 is not more than 1 times 90", far.thinned(1, NONE), 2);
        far.join(0, 2, 89);
        due.is("90 is more than 1 times 89", far.thinned(1, NONE), 3);
        due.is("90 is not more than 2 times 89", far.thinned(2, NONE), 2);
        for (int t = 1; t <= 9; t++) {
            due.is("as much, t " + t, rowClosedBy(t, 11 * t).thinned(t, NONE), t + 2);
            due.is("1 more, t " + t, rowClosedBy(t, 11 * t + 1).thinned(t, NONE), t + 3);
            due.is("as much, thin(" + t + ")", rowClosedBy(t, 11 * t).thin(t), t + 2);
            due.is("1 more, thin(" + t + ")", rowClosedBy(t, 11 * t + 1).thin(t), t + 3);
        }
    }

    /** A row of t + 2 links, so long together, none above 10, and one of 11 from end to end. */
    private static BunchNotes rowClosedBy(int t, int together) {
        int[] lengths = new int[t + 2];
        for (int i = 0; i < together; i++) {
            lengths[i % lengths.length]++;
        }
        BunchNotes x = Nets.row(lengths);
        x.join(0, lengths.length, 11);
        return x;
    }

    /** "by their LENGTHS, the least first, of like ones by numbers". */
    private static void thinnedOrder() {
        BunchNotes x = Nets.of("net 3;link 0 1 5;link 0 2 5;link 1 2 5");
        int[] like = {1, 1, 0};
        for (int i = 0; i < 3; i++) {
            due.is("all alike, link " + i, x.thinned(2, i), like[i]);
        }
        x.join(1, 2, 4);
        int[] least = {1, 0, 1};
        for (int i = 0; i < 3; i++) {
            due.is("the last is least, link " + i, x.thinned(3, i), least[i]);
        }
        x.join(0, 1, 6);
        int[] longest = {0, 1, 1};
        for (int i = 0; i < 3; i++) {
            due.is("the first is longest, link " + i, x.thinned(2, i), longest[i]);
        }
        due.is("thin(2)", x.thin(2), 2);
        due.is("it is gone", x.cut(0, 1), NOT);
    }

    /** "if by LINKS that are taken there is no WAY": ways by links that are not taken do not count. */
    private static void thinnedByTakenOnes() {
        BunchNotes x = Nets.of("net 4;link 0 1 10;link 1 2 10;link 0 2 11;link 2 3 12;link 0 3 13");
        due.is("0 2 is not taken: 20 is not more than 22", x.thinned(2, 1), 0);
        due.is("0 3 is taken: 32 by taken ones is more than 26, 23 by all is not", x.thinned(2, 2), 1);
        due.is("how many", x.thinned(2, NONE), 4);
        due.is("by 3 both are not", x.thinned(3, NONE), 3);
        BunchNotes parts = Nets.of("net 4;link 0 1 99;link 2 3 1");
        due.is("no way: all are taken", parts.thinned(9, NONE), 2);
        due.is("no links: none", new BunchNotes().thinned(1, NONE), 0);
    }

    private static int inverse(int odd) {
        int result = odd;
        for (int i = 0; i < 5; i++) {
            result *= 2 - odd * result;
        }
        return result;
    }

    /** The seed that makes DRAW that number behind so many nodes. */
    private static int seedFor(int draw, int nodes) {
        int seed = draw;
        for (int i = 0; i < nodes; i++) {
            seed = (seed - 1) * BACKWARDS;
        }
        return seed;
    }

    /** "its 16 highest bits, taken as a number of 0 or more, leave by 8: 0, then LEVEL is 2; 1, 2: 1; else 0". */
    private static void drawnRests() {
        int[] levels = {2, 1, 1, 0, 0, 0, 0, 0};
        for (int high : new int[] {0, 8, 0x7ff8, 0x8000, 0x8008, 0xfff0, 0xfff8}) {
            for (int rest = 0; rest < 8; rest++) {
                for (int low : new int[] {0, 1, 0x7fff, 0x8000, 0xffff}) {
                    int draw = (high + rest) << 16 | low;
                    BunchNotes x = new BunchNotes();
                    x.draw(seedFor(draw, 1));
                    due.is("level of 0 by " + draw, x.level(0), levels[rest]);
                    x.draw(seedFor(draw, 2));
                    due.is("level of 1 by " + draw, x.level(1), levels[rest]);
                    due.is("DRAW is " + draw, x.count(8), draw);
                }
            }
        }
    }

    /** "a number of 32 bits, as an int has it": any int, those that else are refusals too. */
    private static void drawnNumbers() {
        int[] ends = {0, 1, -1, -2, -3, -4, -5, Integer.MAX_VALUE, Integer.MIN_VALUE, Integer.MIN_VALUE + 1};
        for (int end : ends) {
            for (int n = 2; n <= 12; n += 5) {
                BunchNotes x = Nets.of("net " + n);
                int lifted = x.draw(seedFor(end, n));
                due.is("DRAW of " + n + " nodes", x.count(8), end);
                due.is("how many are not 0", lifted, x.count(10) + x.count(11));
                due.is("and how many are", x.count(9), n - lifted);
                x.keep(0);
                x.draw(end);
                x.undo();
                due.is("DRAW behind undo()", x.count(8), end);
                x.draw(end);
                x.back(0);
                due.is("DRAW behind back()", x.count(8), end);
            }
        }
        BunchNotes all = Nets.of("net 2;level 0 2;level 1 2");
        due.is("all levels are drawn, also to 0", all.draw(5), 0);
        due.is("level(0)", all.level(0), 0);
    }
}
