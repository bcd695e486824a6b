/** Promises 6 to 31, sentence by sentence, each at its edges; what is refused has RefusedTest. */
public final class EdgesTest {
    private static final int NONE = -1, UNKNOWN = -2, OUTSIDE = -3, NOT = -4;

    private static final Due due = new Due();

    private EdgesTest() {
    }

    public static void main(String[] args) {
        linkByWhat();
        joinNewOrNot();
        cutAnswersLength();
        liftAnswersWhatItWas();
        drawAnswersHowMany();
        thinLeaves();
        undoOfSevenEightNine();
        undoGoesRound();
        undoOfEachAct();
        undoIsNoAct();
        notActs();
        keepAnswersNotes();
        backBringsAll();
        backTwice();
        slotsAreTwo();
        nearestAtEachLevel();
        worstInLeastTerms();
        worstOfNearlyLikes();
        noteSizes();
        mendWritesOldOnes();
        tearAnswers();
        notedByWhat();
        notedFarOnlyInBunch();
        routeEnds();
        routeMeetsWOnce();
        routeByOldNotes();
        pairsOfLikes();
        pairsWithAWay();
        countByWhat();
        fiveHundredAndTwelveCalls();
        due.end();
    }

    // ---- what is told

    /** "its lower NODE (what 0), the other one (1), LENGTH (2)". */
    private static void linkByWhat() {
        BunchNotes x = Nets.of("net 12;link 11 3 42");
        int[] want = {OUTSIDE, 3, 11, 42, OUTSIDE};
        for (int what = -1; what <= 3; what++) {
            due.is("link(0, " + what + ")", x.link(0, what), want[what + 1]);
            due.is("link(-1, " + what + ")", x.link(-1, what), UNKNOWN);
            due.is("link(1, " + what + ")", x.link(1, what), UNKNOWN);
        }
    }

    // ---- acts

    /** "a new one or not: how many LINKS there are". */
    private static void joinNewOrNot() {
        BunchNotes x = Nets.of("net 3");
        due.is("a new one", x.join(2, 0, 1), 1);
        due.is("the same again", x.join(0, 2, 1), 1);
        due.is("longer", x.join(0, 2, 99), 1);
        due.is("another new one", x.join(1, 2, 99), 2);
        due.is("all that there can be", x.join(0, 1, 1), 3);
        due.is("its numbers are in order", x.link(0, 2), 1);
        due.is("acts", x.count(6), 5);
    }

    /** "the LENGTH it had". */
    private static void cutAnswersLength() {
        BunchNotes x = Nets.of("net 3;link 0 1 1;link 1 2 99");
        due.is("cut of 1", x.cut(1, 0), 1);
        due.is("cut of 99", x.cut(1, 2), 99);
        due.is("cut of none", x.cut(1, 2), NOT);
        due.is("cut of one that never was", x.cut(0, 2), NOT);
        due.is("links", x.count(1), 0);
        due.is("acts", x.count(6), 2);
        due.is("join again", x.join(1, 0, 7), 1);
        due.is("cut again", x.cut(0, 1), 7);
    }

    /** "A NODE has LEVEL i: what it was." */
    private static void liftAnswersWhatItWas() {
        BunchNotes x = new BunchNotes();
        int was = 0;
        for (int i : new int[] {0, 1, 2, 2, 0, 2, 1, 1, 0}) {
            due.is("lift(1, " + i + ")", x.lift(1, i), was);
            due.is("level(1)", x.level(1), i);
            due.is("level(0)", x.level(0), 0);
            was = i;
        }
        due.is("acts", x.count(6), 8);
    }

    /** "DRAW is a seed, all LEVELS are drawn by it: how many are not 0." */
    private static void drawAnswersHowMany() {
        int none = 0;
        int all = 0;
        for (int seed = 0; seed < 400; seed++) {
            BunchNotes x = new BunchNotes();
            int lifted = x.draw(seed);
            due.is("not 0 by seed " + seed, lifted, x.count(10) + x.count(11));
            none += lifted == 0 ? 1 : 0;
            all += lifted == 2 ? 1 : 0;
        }
        due.holds("both 0 and 2 are met", none > 0 && all > 0);
        BunchNotes x = Nets.of("net 12;link 0 1 5");
        x.draw(1);
        int once = x.count(8);
        x.draw(1);
        due.is("the seed counts, not what DRAW was", x.count(8), once);
        due.is("links stay", x.count(1), 1);
    }

    /** "LINKS that are not THINNED by t go: how many are left." */
    private static void thinLeaves() {
        for (int t = 1; t <= 9; t++) {
            BunchNotes x = Nets.full();
            int taken = x.thinned(t, NONE);
            int last = x.thinned(t, 29);
            due.is("thin(" + t + ")", x.thin(t), taken);
            due.is("links", x.count(1), taken);
            due.is("the last one", x.cut(2, 11), last == 1 ? 50 : NOT);
        }
        BunchNotes x = Nets.of("net 3;link 0 1 9;link 1 2 9;link 0 2 9");
        due.is("thin(1)", x.thin(1), 3);
        due.is("thin(2)", x.thin(2), 2);
        due.is("the last of like ones is gone", x.distance(1, 2), 18);
        due.is("thin(9) of what is left", x.thin(9), 2);
        due.is("acts", x.count(6), 3);
        due.is("undo", x.undo() + x.undo(), 3);
        due.is("it is there again", x.distance(1, 2), 9);
        due.is("thin() of nothing", new BunchNotes().thin(1), 0);
    }

    /** "the last 8 can be": with one less, as many, one more. */
    private static void undoOfSevenEightNine() {
        for (int acts = 0; acts <= 10; acts++) {
            BunchNotes x = new BunchNotes();
            for (int l = 1; l <= acts; l++) {
                x.join(0, 1, l);
            }
            int can = Math.min(acts, 8);
            due.is("can be undone of " + acts, x.count(6), can);
            for (int left = can - 1; left >= 0; left--) {
                due.is("undo() of " + acts, x.undo(), left);
                int length = acts - can + left;
                due.is("length of " + acts, x.distance(0, 1), length == 0 ? NONE : length);
            }
            due.is("undo() of one more, of " + acts, x.undo(), NOT);
            due.is("acts then", x.count(6), 0);
        }
    }

    /** Acts and undos in turn, so that what is kept for undo() comes round many times. */
    private static void undoGoesRound() {
        int[] lengths = new int[1000];
        BunchNotes x = new BunchNotes();
        int made = 0;
        int can = 0;
        for (int round = 1; round <= 30; round++) {
            for (int i = 0; i < round % 11; i++) {
                made++;
                lengths[made] = 1 + (made * 7 + round) % 99;
                x.join(0, 1, lengths[made]);
                can = Math.min(can + 1, 8);
            }
            for (int i = 0; i < round % 7; i++) {
                due.is("undo() in round " + round, x.undo(), can == 0 ? NOT : can - 1);
                made -= can == 0 ? 0 : 1;
                can = Math.max(can - 1, 0);
            }
            due.is("length in round " + round, x.distance(0, 1), made == 0 ? NONE : lengths[made]);
            due.is("acts in round " + round, x.count(6), can);
        }
    }

    /** "LINKS, LEVELS, DRAW are as they were ahead of it, NOTES stay". */
    private static void undoOfEachAct() {
        BunchNotes x = Nets.ring();
        x.draw(6);
        int drawn = x.count(8);
        int levels = levels(x);
        x.mend();
        int nodes = x.count(5);
        x.join(1, 4, 2);
        due.is("undo a new link", x.undo(), 1);
        due.is("it is gone", x.cut(1, 4), NOT);
        x.join(0, 3, 2);
        due.is("undo another length", x.undo(), 1);
        due.is("the length", x.link(1, 2), 9);
        x.cut(0, 3);
        due.is("undo a cut", x.undo(), 1);
        due.is("the link", x.link(1, 2), 9);
        x.lift(3, 2);
        x.lift(3, 1);
        due.is("undo a lift", x.undo(), 2);
        due.is("the level", x.level(3), 2);
        due.is("undo another", x.undo(), 1);
        due.is("the levels", levels(x), levels);
        x.draw(7);
        due.is("undo a draw", x.undo(), 1);
        due.is("the levels drawn", levels(x), levels);
        due.is("DRAW", x.count(8), drawn);
        x.thin(9);
        due.is("links thinned", x.count(1), 5);
        due.is("undo a thin", x.undo(), 1);
        due.is("links", x.count(1), 7);
        due.is("all notes are fresh again", x.count(4), 6);
        x.join(1, 4, 2);
        x.mend();
        x.tear(5);
        x.undo();
        due.is("notes stay", x.count(3), 5);
        due.holds("and bear what they bore", x.count(5) != nodes && x.count(4) < 5);
    }

    private static int levels(BunchNotes x) {
        int all = 0;
        for (int v = 0; v < x.count(0); v++) {
            all = all * 3 + x.level(v);
        }
        return all;
    }

    /** What was undone is gone: undo() goes on to the act ahead of it. */
    private static void undoIsNoAct() {
        BunchNotes x = new BunchNotes();
        x.join(0, 1, 5);
        x.join(0, 1, 6);
        due.is("undo()", x.undo(), 1);
        due.is("acts", x.count(6), 1);
        due.is("undo() again", x.undo(), 0);
        due.is("no links", x.count(1), 0);
        due.is("undo() of nothing", x.undo(), NOT);
        x.lift(0, 1);
        due.is("an act again", x.count(6), 1);
        due.is("undo() of it", x.undo(), 0);
        due.is("level(0)", x.level(0), 0);
    }

    /** "The latest join(), cut(), lift(), draw(), thin()", "also one by which nothing became other". */
    private static void notActs() {
        BunchNotes x = Nets.of("net 3;link 0 1 5;link 1 2 5");
        x.note(0);
        x.mend();
        x.tear(2);
        x.keep(0);
        x.type('n');
        x.erase();
        x.fault();
        x.net();
        x.undo();
        due.is("none of these is an act", x.count(6), 0);
        x.join(0, 1, 5);
        due.is("join() of the same length", x.count(6), 1);
        x.lift(0, 0);
        due.is("lift() to the same level", x.count(6), 2);
        x.thin(1);
        due.is("thin() by which none goes", x.count(6), 3);
        int draw = x.count(8);
        x.draw(5);
        x.draw(5);
        due.is("draw() by the same seed", x.count(6), 5);
        due.is("undo()", x.undo(), 4);
        due.is("undo()", x.undo(), 3);
        due.is("DRAW", x.count(8), draw);
        due.is("undo()", x.undo(), 2);
        due.is("undo()", x.undo(), 1);
        due.is("undo()", x.undo(), 0);
        due.is("links", x.count(1), 2);
    }

    /** "how many NOTES are not blank". */
    private static void keepAnswersNotes() {
        BunchNotes x = Nets.of("net 12");
        for (int v = 0; v <= 12; v++) {
            due.is("keep(" + v % 2 + ") with " + v, x.keep(v % 2), v);
            due.is("back(" + v % 2 + ") with " + v, x.back(v % 2), v);
            if (v < 12) {
                x.note(11 - v);
            }
        }
        x.join(0, 1, 5);
        due.is("old ones count", x.keep(0), 12);
        x.tear(4);
        due.is("blank ones do not", x.keep(0), 11);
    }

    /** "They are as they were kept, nothing can be undone: as keep()." */
    private static void backBringsAll() {
        BunchNotes x = Nets.ring();
        x.note(2);
        x.draw(31);
        int levels = levels(x);
        int drawn = x.count(8);
        x.keep(1);
        x.draw(32);
        x.join(0, 3, 1);
        x.cut(4, 5);
        x.join(1, 4, 50);
        x.lift(2, (x.level(2) + 1) % 3);
        x.tear(2);
        x.note(3);
        x.note(4);
        due.is("back(1)", x.back(1), 1);
        due.is("acts", x.count(6), 0);
        due.is("undo()", x.undo(), NOT);
        due.is("links", x.count(1), 7);
        due.is("length", x.link(1, 2), 9);
        due.is("levels", levels(x), levels);
        due.is("DRAW", x.count(8), drawn);
        due.is("the note that was torn", x.noted(2, 7), Nets.set(2, 4));
        due.is("its distance", x.notedFar(2, 4), 8);
        due.is("a note that was blank", x.noted(3, 7), NOT);
        due.is("an act behind it", x.lift(0, 2) >= 0 ? x.undo() : NOT, 0);
    }

    /** What is kept stays kept, whatever is done to what was brought back. */
    private static void backTwice() {
        BunchNotes x = Nets.of("net 3;link 0 1 5");
        x.mend();
        x.keep(0);
        for (int i = 0; i < 3; i++) {
            x.join(0, 1, 50 + i);
            x.join(1, 2, 6);
            x.lift(0, 2);
            x.draw(i);
            x.tear(i);
            x.note((i + 1) % 3);
            due.is("back(0), time " + i, x.back(0), 3);
            due.is("links", x.count(1), 1);
            due.is("length", x.distance(0, 1), 5);
            due.is("levels", x.count(9), 3);
            due.is("DRAW", x.count(8), 1);
            due.is("fresh ones", x.count(4), 3);
        }
        x.join(0, 1, 8);
        due.is("keep(0) anew", x.keep(0), 3);
        x.undo();
        due.is("undo() goes behind keep()", x.distance(0, 1), 5);
        due.is("back(0) anew", x.back(0), 3);
        due.is("what was kept last", x.distance(0, 1), 8);
    }

    /** "k 0, 1". */
    private static void slotsAreTwo() {
        BunchNotes x = new BunchNotes();
        x.join(0, 1, 10);
        due.is("keep(0)", x.keep(0), 0);
        due.is("back(1): nothing was kept there", x.back(1), NOT);
        x.join(0, 1, 11);
        due.is("keep(1)", x.keep(1), 0);
        due.is("keep(-1)", x.keep(-1), OUTSIDE);
        due.is("keep(2)", x.keep(2), OUTSIDE);
        x.join(0, 1, 12);
        due.is("back(-1)", x.back(-1), OUTSIDE);
        due.is("back(2)", x.back(2), OUTSIDE);
        due.is("length", x.distance(0, 1), 12);
        due.is("back(0)", x.back(0), 0);
        due.is("length in 0", x.distance(0, 1), 10);
        due.is("back(1)", x.back(1), 0);
        due.is("length in 1", x.distance(0, 1), 11);
        due.is("back(0) again", x.back(0), 0);
        due.is("length in 0 again", x.distance(0, 1), 10);
    }

    // ---- how it is

    /** "(what 0), its DISTANCE (1); NONE", "LEVEL 0 to 2; what". */
    private static void nearestAtEachLevel() {
        BunchNotes x = Nets.row(4, 5, 6);
        x.lift(2, 1);
        x.lift(3, 2);
        int[][] want = {{0, 0}, {2, 9}, {3, 15}};
        for (int level = -1; level <= 3; level++) {
            for (int what = -1; what <= 2; what++) {
                boolean inside = level >= 0 && level <= 2 && what >= 0 && what <= 1;
                due.is("nearest(0, " + level + ", " + what + ")", x.nearest(0, level, what),
                        inside ? want[level][what] : OUTSIDE);
            }
        }
        x.cut(2, 3);
        due.is("none of level 2", x.nearest(0, 2, 0), NONE);
        due.is("none of level 2, how far", x.nearest(0, 2, 1), NONE);
        due.is("of level 1 yet", x.nearest(0, 1, 0), 2);
    }

    private static void worstIs(BunchNotes x, int t, int above, int below) {
        due.is("worst(" + t + ", 0)", x.worst(t, 0), above);
        due.is("worst(" + t + ", 1)", x.worst(t, 1), below);
    }

    /** "in least terms: what is above (what 0), below (1); NONE: there is no such pair". */
    private static void worstInLeastTerms() {
        worstIs(new BunchNotes(), 1, NONE, NONE);
        worstIs(Nets.of("net 12"), 9, NONE, NONE);
        worstIs(Nets.of("net 12;link 3 4 98"), 5, 1, 1);
        for (int t = 2; t <= 9; t++) {
            int[] lengths = new int[t];
            java.util.Arrays.fill(lengths, 12);
            BunchNotes x = Nets.row(lengths);
            x.join(0, t, 12);
            worstIs(x, t, t, 1);
            if (t > 2) {
                worstIs(x, t - 1, 1, 1);
            }
        }
        BunchNotes gone = Nets.of("net 3;link 0 1 5;link 1 2 5;link 0 2 5");
        worstIs(gone, 2, 2, 1);
        gone.mend();
        gone.join(0, 1, 2);
        pairsAre(gone, 0, 1, 3, 0);
        gone.cut(0, 1);
        gone.cut(1, 2);
        gone.cut(0, 2);
        worstIs(gone, 2, NONE, NONE);
        pairsAre(gone, NONE, NONE, 0, 0);
        worstIs(gone, 2, NONE, NONE);
        BunchNotes x = Nets.of("net 3;link 0 1 20;link 1 2 22;link 0 2 24");
        worstIs(x, 1, 1, 1);
        worstIs(x, 2, 7, 4);
        x.join(0, 2, 99);
        worstIs(x, 1, 1, 1);
        x.join(0, 2, 42);
        worstIs(x, 9, 1, 1);
        x.join(0, 2, 41);
        worstIs(x, 1, 1, 1);
        worstIs(x, 2, 42, 41);
        x.join(1, 0, 99);
        worstIs(x, 1, 1, 1);
        worstIs(x, 9, 1, 1);
    }

    /** "the greatest": two that are nearly like, in either order; and pairs without a link of their own. */
    private static void worstOfNearlyLikes() {
        String first = "link 0 1 30;link 1 2 37;link 0 2 50";
        String second = "link 3 4 40;link 4 5 59;link 3 5 74";
        BunchNotes x = Nets.of("net 6;" + first + ";" + second);
        worstIs(x, 2, 67, 50);
        x.join(4, 5, 60);
        worstIs(x, 2, 50, 37);
        BunchNotes y = Nets.of("net 6;link 0 1 40;link 1 2 60;link 0 2 74;link 3 4 30;link 4 5 37;link 3 5 50");
        worstIs(y, 2, 50, 37);
        y.join(1, 2, 59);
        worstIs(y, 2, 67, 50);
        BunchNotes beyond = Nets.of("net 4;link 0 1 6;link 1 2 6;link 0 2 8;link 2 3 1");
        worstIs(beyond, 2, 3, 2);
        beyond.join(0, 3, 9);
        worstIs(beyond, 2, 3, 2);
    }

    // ---- notes

    /** "how many NODES its BUNCH has". */
    private static void noteSizes() {
        BunchNotes x = Nets.of("net 12");
        due.is("alone", x.note(11), 1);
        for (int v = 1; v < 12; v++) {
            x.join(v - 1, v, 1);
            due.is("of " + (v + 1) + " that hang together", x.note(0), v + 1);
        }
        x.lift(0, 2);
        due.is("of the centre", x.note(0), 1);
        due.is("notes", x.count(3), 2);
        due.is("nodes in them", x.count(5), 2);
    }

    /** "All NOTES that are not FRESH are written: how many." */
    private static void mendWritesOldOnes() {
        BunchNotes x = Nets.row(5, 5, 5);
        due.is("all blank", x.mend(), 4);
        due.is("all fresh", x.mend(), 0);
        x.tear(3);
        due.is("one blank", x.mend(), 1);
        due.is("it is there", x.noted(3, 7), Nets.set(0, 1, 2, 3));
        x.lift(0, 2);
        due.is("a centre for all", x.mend(), 4);
        x.lift(3, 1);
        int fresh = x.count(4);
        due.is("mend() of the rest", x.mend(), 4 - fresh);
        x.cut(0, 1);
        due.is("a link for all but the centre, whose bunch is itself", x.mend(), 3);
        due.is("fresh ones", x.count(4), 4);
        x.join(0, 1, 5);
        x.cut(0, 1);
        due.is("there and back", x.mend(), 0);
    }

    /** "1 it was not, 0." */
    private static void tearAnswers() {
        BunchNotes x = new BunchNotes();
        due.is("blank at first", x.tear(1), 0);
        x.note(1);
        due.is("written", x.tear(1), 1);
        due.is("torn", x.tear(1), 0);
        x.note(1);
        x.join(0, 1, 5);
        due.is("old", x.tear(1), 1);
        due.is("the other is written then", x.note(0), 2);
        due.is("the other stays", x.tear(0), 1);
    }

    /** "(what 0); ... (1, 2, 3; NONE), ... (4, 5, 6; NONE); the BUNCH as a SET (7)". */
    private static void notedByWhat() {
        BunchNotes x = Nets.row(4, 5, 6);
        x.lift(2, 1);
        x.note(0);
        int[] want = {1, 0, 2, NONE, 0, 9, NONE, Nets.set(0, 1, 2)};
        int[] blank = {0, NOT, NOT, NOT, NOT, NOT, NOT, NOT};
        for (int what = -1; what <= 8; what++) {
            boolean inside = what >= 0 && what <= 7;
            due.is("noted(0, " + what + ")", x.noted(0, what), inside ? want[what] : OUTSIDE);
            due.is("noted(1, " + what + ")", x.noted(1, what), inside ? blank[what] : OUTSIDE);
            due.is("noted(4, " + what + ")", x.noted(4, what), UNKNOWN);
        }
        x.lift(3, 2);
        x.note(0);
        int[] then = {1, 0, 2, 3, 0, 9, 15, Nets.set(0, 1, 2, 3)};
        for (int what = 0; what <= 7; what++) {
            due.is("noted(0, " + what + ") then", x.noted(0, what), then[what]);
        }
    }

    /** "NONE: it is not there, the NOTE is blank." */
    private static void notedFarOnlyInBunch() {
        BunchNotes x = Nets.of("net 4;link 0 1 6;link 0 2 6;level 1 1");
        due.is("blank", x.notedFar(0, 0), NONE);
        x.note(0);
        due.is("itself", x.notedFar(0, 0), 0);
        due.is("the centre", x.notedFar(0, 1), 6);
        due.is("as near as the centre", x.notedFar(0, 2), NONE);
        due.is("without a way", x.notedFar(0, 3), NONE);
        due.is("no such node", x.notedFar(0, 4), UNKNOWN);
        due.is("no such node's note", x.notedFar(4, 0), UNKNOWN);
        due.is("another's is blank", x.notedFar(1, 0), NONE);
        x.tear(0);
        due.is("torn", x.notedFar(0, 1), NONE);
    }

    private static void routeIs(BunchNotes x, int u, int v, int... way) {
        for (int k = 0; k < way.length; k++) {
            due.is("route(" + u + ", " + v + ", " + k + ")", x.route(u, v, k), way[k]);
        }
        for (int k : new int[] {way.length, way.length + 1, 24, Integer.MAX_VALUE, -1, -2, Integer.MIN_VALUE}) {
            if (k < 0 || k >= way.length) {
                due.is("route(" + u + ", " + v + ", " + k + ")", x.route(u, v, k), NONE);
            }
        }
    }

    /** "NONE: it has not so many, or k is below 0." */
    private static void routeEnds() {
        BunchNotes x = Nets.row(5, 5, 5);
        x.mend();
        routeIs(x, 0, 0, 0);
        routeIs(x, 0, 1, 0, 1);
        routeIs(x, 3, 0, 3, 2, 1, 0);
        x.lift(3, 1);
        x.mend();
        due.is("told by v", x.told(0, 3, 1), 3);
        routeIs(x, 0, 3, 0, 1, 2, 3);
    }

    /** "w is met once"; other nodes may be met on the way there and on the way from there. */
    private static void routeMeetsWOnce() {
        BunchNotes x = Nets.of("net 4;link 0 1 9;link 0 2 2;link 2 3 2;level 3 2");
        x.mend();
        due.is("told by 3", x.told(1, 0, 1), 3);
        routeIs(x, 1, 0, 1, 0, 2, 3, 2, 0);
        due.is("told by 0", x.told(0, 1, 1), 0);
        routeIs(x, 0, 1, 0, 1);
        BunchNotes row = Nets.row(1, 5, 5, 1);
        row.lift(1, 1);
        row.lift(2, 2);
        row.lift(3, 1);
        row.mend();
        due.is("at level 2", row.told(0, 4, 2), 2);
        routeIs(row, 0, 4, 0, 1, 2, 3, 4);
    }

    /** "NOT: UNTOLD, or there is no WAY to w, or from w to v": the way is one of now, w is one of the notes. */
    private static void routeByOldNotes() {
        BunchNotes x = Nets.of("net 4;link 0 1 5;link 1 2 5;link 2 3 5;level 1 1");
        x.mend();
        due.is("told by 1", x.told(0, 3, 1), 1);
        x.join(0, 3, 1);
        routeIs(x, 0, 3, 0, 1, 0, 3);
        x.cut(0, 1);
        routeIs(x, 0, 3, 0, 3, 2, 1, 2, 3);
        x.cut(1, 2);
        due.is("no way to w, though one to v", x.route(0, 3, 0), NOT);
        x.join(0, 1, 4);
        routeIs(x, 0, 3, 0, 1, 0, 3);
        x.cut(0, 3);
        due.is("no way from w to v", x.route(0, 3, 0), NOT);
        due.is("no way from w to v, k beyond", x.route(0, 3, 9), NOT);
        x.join(1, 3, 4);
        routeIs(x, 0, 3, 0, 1, 3);
        x.tear(3);
        due.is("untold", x.route(0, 3, 0), NOT);
        BunchNotes apart = Nets.row(5, 5);
        apart.lift(1, 1);
        apart.mend();
        due.is("told by the middle", apart.told(0, 2, 1), 1);
        apart.cut(0, 1);
        for (int k = -1; k <= 3; k++) {
            due.is("no way to w, though one from w to v, k " + k, apart.route(0, 2, k), NOT);
        }
        apart.join(0, 1, 9);
        apart.cut(1, 2);
        for (int k = -1; k <= 3; k++) {
            due.is("a way to w, none from w to v, k " + k, apart.route(0, 2, k), NOT);
        }
    }

    private static void pairsAre(BunchNotes x, int u, int v, int told, int untold) {
        int[] want = {OUTSIDE, u, v, told, untold, OUTSIDE};
        for (int what = -1; what <= 4; what++) {
            due.is("pairs(" + what + ")", x.pairs(what), want[what + 1]);
        }
    }

    /** "of like ones the one with the lower u, then v". */
    private static void pairsOfLikes() {
        BunchNotes x = Nets.of("net 6;link 0 1 4;link 2 3 6;link 4 5 8");
        pairsAre(x, NONE, NONE, 0, 3);
        x.mend();
        pairsAre(x, 0, 1, 3, 0);
        x.join(2, 3, 3);
        pairsAre(x, 2, 3, 3, 0);
        x.join(4, 5, 4);
        pairsAre(x, 2, 3, 3, 0);
        x.join(0, 1, 2);
        pairsAre(x, 0, 1, 3, 0);
        x.join(0, 1, 99);
        x.join(2, 3, 99);
        pairsAre(x, 4, 5, 3, 0);
        x.join(4, 5, 99);
        pairsAre(x, 4, 5, 3, 0);
        BunchNotes star = Nets.of("net 4;link 0 1 6;link 0 2 6;link 0 3 6");
        star.mend();
        star.join(0, 2, 3);
        star.join(0, 3, 3);
        pairsAre(star, 0, 2, 6, 0);
        star.join(1, 2, 2);
        pairsAre(star, 1, 2, 6, 0);
        BunchNotes nearly = Nets.of("net 4;link 0 1 67;link 2 3 50");
        nearly.mend();
        nearly.join(0, 1, 50);
        nearly.join(2, 3, 37);
        pairsAre(nearly, 2, 3, 2, 0);
        nearly.join(2, 3, 38);
        pairsAre(nearly, 0, 1, 2, 0);
    }

    /** "that have a WAY and are TOLD", "how many pairs that have a WAY are UNTOLD". */
    private static void pairsWithAWay() {
        BunchNotes x = new BunchNotes();
        pairsAre(x, NONE, NONE, 0, 0);
        x.join(0, 1, 5);
        pairsAre(x, NONE, NONE, 0, 1);
        x.note(0);
        pairsAre(x, NONE, NONE, 0, 1);
        x.note(1);
        pairsAre(x, 0, 1, 1, 0);
        x.cut(0, 1);
        due.is("told yet", x.told(0, 1, 0), 5);
        pairsAre(x, NONE, NONE, 0, 0);
        BunchNotes all = Nets.row(1, 1, 1, 1, 1, 1, 1, 1, 1, 1, 1);
        pairsAre(all, NONE, NONE, 0, 66);
        all.mend();
        pairsAre(all, 0, 1, 66, 0);
        all.tear(11);
        pairsAre(all, 0, 1, 55, 11);
        all.cut(10, 11);
        pairsAre(all, 0, 1, 55, 0);
        BunchNotes oneSided = Nets.row(5, 5);
        oneSided.note(0);
        oneSided.cut(0, 1);
        oneSided.note(1);
        oneSided.join(0, 1, 5);
        due.is("1, 0 are told", oneSided.told(1, 0, 0), 5);
        due.is("0, 1 are not", oneSided.told(0, 1, 0), NONE);
        pairsAre(oneSided, NONE, NONE, 0, 3);
    }

    /** "0 NODES, 1 LINKS, ... 9 to 11 NODES of LEVEL 0 to 2." */
    private static void countByWhat() {
        BunchNotes x = Nets.of("net 9;link 0 1 5;link 1 2 5;link 7 8 1;level 0 1;level 1 2;level 8 2");
        x.mend();
        x.tear(6);
        x.cut(7, 8);
        x.lift(3, 1);
        x.undo();
        Nets.typeAll(x, "net");
        int[] want = {OUTSIDE, 9, 2, 7, 8, 7, 11, 1, 3, 1, 6, 1, 2, OUTSIDE};
        for (int what = -1; what <= 12; what++) {
            due.is("count(" + what + ")", x.count(what), want[what + 1]);
        }
    }

    /** "used for at most 512 calls": the last of these answers as well as the first. */
    private static void fiveHundredAndTwelveCalls() {
        BunchNotes x = new BunchNotes();
        for (int call = 1; call <= 509; call++) {
            due.is("join(), call " + call, x.join(call % 2, 1 - call % 2, 1 + call % 99), 1);
        }
        due.is("call 510", x.count(6), 8);
        due.is("call 511", x.undo(), 7);
        due.is("call 512", x.distance(0, 1), 1 + 508 % 99);
    }
}
