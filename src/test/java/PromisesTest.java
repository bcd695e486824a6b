/** Each promise of the document by itself: ordinary inputs, named edges, wrong inputs. */
public final class PromisesTest {
    private static final int NONE = -1, UNKNOWN = -2, OUTSIDE = -3, NOT = -4, FULL = -5;
    private static final int[] WRONG_NODES = {-1, -2, 6, 12, 13, Integer.MAX_VALUE, Integer.MIN_VALUE};

    private static final Due due = new Due();

    private PromisesTest() {
    }

    public static void main(String[] args) {
        newObject();
        type();
        erase();
        fault();
        faultOfBounds();
        faultOfFulness();
        net();
        link();
        level();
        join();
        cut();
        lift();
        draw();
        thin();
        undo();
        keepAndBack();
        distance();
        nearest();
        bunch();
        next();
        thinned();
        worst();
        note();
        mend();
        tear();
        noted();
        notedFar();
        told();
        why();
        route();
        pairs();
        count();
        due.end();
    }

    // ---- helpers

    private static void faultIs(BunchNotes x, String text, int want) {
        x.erase();
        Nets.typeAll(x, text);
        due.is("fault() of '" + text + "'", x.fault(), want);
        due.is("letters of '" + text + "' behind fault()", x.count(7), text.length());
    }

    // ---- promise 1

    private static void newObject() {
        BunchNotes x = new BunchNotes();
        int[] counts = {2, 0, 2, 0, 0, 0, 0, 0, 1, 2, 0, 0};
        for (int what = 0; what < counts.length; what++) {
            due.is("new: count(" + what + ")", x.count(what), counts[what]);
        }
        due.is("new: level(0)", x.level(0), 0);
        due.is("new: level(1)", x.level(1), 0);
        due.is("new: level(2)", x.level(2), UNKNOWN);
        due.is("new: undo()", x.undo(), NOT);
        due.is("new: back(0)", x.back(0), NOT);
        due.is("new: back(1)", x.back(1), NOT);
        due.is("new: erase()", x.erase(), 0);
        BunchNotes other = new BunchNotes();
        other.join(0, 1, 3);
        due.is("objects share nothing", x.count(1), 0);
    }

    // ---- promises 2 to 5

    private static void type() {
        BunchNotes x = new BunchNotes();
        due.is("type(0)", x.type(0), 1);
        due.is("type(255)", x.type(255), 2);
        due.is("type(-1)", x.type(-1), OUTSIDE);
        due.is("type(256)", x.type(256), OUTSIDE);
        due.is("type(min)", x.type(Integer.MIN_VALUE), OUTSIDE);
        due.is("letters", x.count(7), 2);
        for (int i = 3; i <= 200; i++) {
            due.is("type, letter " + i, x.type('a'), i);
        }
        due.is("type, letter 201", x.type('a'), FULL);
        due.is("type(256) when full", x.type(256), OUTSIDE);
        due.is("letters when full", x.count(7), 200);
    }

    private static void erase() {
        BunchNotes x = new BunchNotes();
        Nets.typeAll(x, "net 3");
        due.is("erase()", x.erase(), 5);
        due.is("erase() again", x.erase(), 0);
        due.is("letters", x.count(7), 0);
        due.is("type behind erase", x.type('n'), 1);
        due.is("nodes", x.count(0), 2);
        x.keep(0);
        x.join(0, 1, 1);
        x.erase();
        due.is("acts behind erase", x.count(6), 1);
        due.is("kept behind erase", x.back(0), 0);
    }

    private static void fault() {
        BunchNotes x = new BunchNotes();
        faultIs(x, "", 0);
        faultIs(x, "   ", 3);
        faultIs(x, "net 3", NONE);
        faultIs(x, "net3", NONE);
        faultIs(x, "  net  3  ", NONE);
        faultIs(x, " net 3 ; level 0 2 ;link0 1 9", NONE);
        faultIs(x, "net 3;level0 2;link 0 1 99", NONE);
        faultIs(x, "net", 3);
        faultIs(x, "net  ", 5);
        faultIs(x, "net;", 3);
        faultIs(x, "ne t 3", 0);
        faultIs(x, "nets 3", 0);
        faultIs(x, "neta 3", 0);
        faultIs(x, "netz 3", 0);
        faultIs(x, "xet 3", 0);
        faultIs(x, "link`0 1 5", 4);
        faultIs(x, "link{0 1 5", 4);
        faultIs(x, "link/0 1 5", 4);
        faultIs(x, "link:0 1 5", 4);
        faultIs(x, "Net 3", 0);
        faultIs(x, "neT 3", 0);
        faultIs(x, " net 3;", 7);
        faultIs(x, "net 3; ", 7);
        faultIs(x, ";net 3", 0);
        faultIs(x, "net 3;;net 3", 6);
        faultIs(x, "net 3 net 3", 6);
        faultIs(x, "net 3.", 5);
        faultIs(x, "3", 0);
        faultIs(x, "net x", 4);
        faultIs(x, "netx", 0);
        faultIs(x, "net 3x", 5);
        faultIs(x, "net 3 3", 6);
        faultIs(x, "net\t3", 3);
        faultIs(x, "net" + (char) 160 + "3", 3);
        faultIs(x, "net" + (char) 233 + " 3", 3);
        faultIs(x, "net -3", 4);
        faultIs(x, "link 0 1", 8);
        faultIs(x, "link 0 1;", 8);
        faultIs(x, "link 0", 6);
        faultIs(x, "link", 4);
        faultIs(x, "link 01 00 07", NONE);
        faultIs(x, "link 0 1 5 6", 11);
        faultIs(x, "level 0", 7);
        faultIs(x, "level", 5);
        faultIs(x, "level 1 2", NONE);
        faultIs(x, "level 12", 6);
        due.is("fault changes nothing", x.count(0), 2);
    }

    private static void faultOfBounds() {
        BunchNotes x = new BunchNotes();
        faultIs(x, "net 1", 4);
        faultIs(x, "net 2", NONE);
        faultIs(x, "net 12", NONE);
        faultIs(x, "net 13", 4);
        faultIs(x, "net 0", 4);
        faultIs(x, "net 02", NONE);
        faultIs(x, "net 002", 4);
        faultIs(x, "net 99999999999999999999", 4);
        faultIs(x, "link 2 0 1", 5);
        faultIs(x, "link 0 2 1", 7);
        faultIs(x, "link 1 1 1", 7);
        faultIs(x, "link 1 01 1", 7);
        faultIs(x, "link 0 1 0", 9);
        faultIs(x, "link 0 1 00", 9);
        faultIs(x, "link 0 1 1", NONE);
        faultIs(x, "link 0 1 99", NONE);
        faultIs(x, "link 0 1 100", 9);
        faultIs(x, "link 0 1 001", 9);
        faultIs(x, "level 2 0", 6);
        faultIs(x, "level 0 3", 8);
        faultIs(x, "level 0 02", NONE);
        faultIs(x, "net 5;level 4 1", NONE);
        faultIs(x, "net 5;net 3;level 4 1", 18);
        faultIs(x, "level 4 1;net 5", 6);
        BunchNotes six = Nets.ring();
        faultIs(six, "level 5 1;link 5 4 9", NONE);
        faultIs(six, "net 2;level 5 1", 12);
    }

    private static void faultOfFulness() {
        faultIs(new BunchNotes(), Nets.times("net 3", 24), NONE);
        faultIs(new BunchNotes(), Nets.times("net 3", 25), 24 * 6 - 1);
        faultIs(new BunchNotes(), Nets.times("net 3", 24) + ";", 24 * 6 - 1);
        faultIs(new BunchNotes(), Nets.times("net 3", 24) + " x", 24 * 6);
        BunchNotes full = Nets.full();
        faultIs(full, "link 0 1 7", NONE);
        faultIs(full, "link 1 0 7;link 11 0 2", NONE);
        faultIs(full, "link 10 11 7", 8);
        faultIs(full, "link 10 11 777", 8);
        faultIs(full, "link 10 11", 8);
        faultIs(full, "net 12;link 10 11 7", NONE);
        full.cut(0, 1);
        faultIs(full, "link 10 11 7", NONE);
        faultIs(full, "link 10 11 7;link 11 10 8", NONE);
        faultIs(full, "link 10 11 7;link 0 1 8", 20);
    }

    private static void net() {
        BunchNotes x = new BunchNotes();
        due.is("net() of nothing", x.net(), NOT);
        Nets.typeAll(x, "net 4;link 3 1 8;level 2 1;level 2 2;link 1 3 9");
        due.is("net()", x.net(), 5);
        due.is("letters behind net()", x.count(7), 0);
        due.is("nodes", x.count(0), 4);
        due.is("links", x.count(1), 1);
        due.is("length", x.link(0, 2), 9);
        due.is("level(2)", x.level(2), 2);
        x.draw(77);
        int drawn = x.count(8);
        x.lift(3, 1);
        x.mend();
        x.keep(1);
        Nets.typeAll(x, "link 0 1 5");
        due.is("net() of a link", x.net(), 1);
        due.is("nodes stay", x.count(0), 4);
        due.is("links stay", x.count(1), 2);
        due.is("levels stay", x.level(3), 1);
        due.is("notes stay", x.count(3), 4);
        due.is("DRAW stays", x.count(8), drawn);
        due.is("nothing can be undone", x.undo(), NOT);
        due.is("nothing is kept", x.back(1), NOT);
        Nets.typeAll(x, "link 0 1 5;net 3;level 1 2");
        due.is("net() anew", x.net(), 3);
        due.is("new nodes", x.count(0), 3);
        due.is("no links", x.count(1), 0);
        due.is("no ways", x.distance(0, 1), NONE);
        due.is("notes are blank", x.count(3), 0);
        due.is("level(1)", x.level(1), 2);
        due.is("level(2) is 0 again", x.level(2), 0);
        due.is("DRAW stays anew", x.count(8), drawn);
        x.join(0, 1, 1);
        x.keep(0);
        x.note(0);
        Nets.typeAll(x, "net 9;level");
        due.is("net() with a fault", x.net(), NOT);
        due.is("a fault: letters stay", x.count(7), 11);
        due.is("a fault: nodes stay", x.count(0), 3);
        due.is("a fault: notes stay", x.count(3), 1);
        due.is("a fault: acts stay", x.count(6), 1);
        due.is("a fault: what is kept stays", x.back(0), 0);
    }

    // ---- promises 6, 7

    private static void link() {
        BunchNotes x = Nets.ring();
        int[][] links = {{0, 1, 4}, {0, 3, 9}, {0, 5, 4}, {1, 2, 4}, {2, 3, 4}, {3, 4, 4}, {4, 5, 4}};
        for (int i = 0; i < links.length; i++) {
            for (int what = 0; what < 3; what++) {
                due.is("link(" + i + ", " + what + ")", x.link(i, what), links[i][what]);
            }
        }
        due.is("link(7, 0)", x.link(7, 0), UNKNOWN);
        due.is("link(-1, 0)", x.link(-1, 0), UNKNOWN);
        due.is("link(7, 3)", x.link(7, 3), UNKNOWN);
        due.is("link(0, 3)", x.link(0, 3), OUTSIDE);
        due.is("link(0, -1)", x.link(0, -1), OUTSIDE);
        x.join(4, 1, 99);
        due.is("a new link moves numbers", x.link(4, 1), 4);
        due.is("its length", x.link(4, 2), 99);
        due.is("link(29) of a full net", Nets.full().link(29, 1), 11);
    }

    private static void level() {
        BunchNotes x = Nets.ring();
        int[] levels = {0, 0, 1, 0, 2, 0};
        for (int v = 0; v < 6; v++) {
            due.is("level(" + v + ")", x.level(v), levels[v]);
        }
        for (int v : WRONG_NODES) {
            due.is("level(" + v + ")", x.level(v), UNKNOWN);
        }
    }

    // ---- promises 8 to 12

    private static void join() {
        BunchNotes x = Nets.ring();
        due.is("join a new one", x.join(5, 1, 99), 8);
        due.is("join again, other way round", x.join(1, 5, 1), 8);
        due.is("its length", x.link(4, 2), 1);
        due.is("distance by it", x.distance(5, 1), 1);
        due.is("distance back", x.distance(1, 5), 1);
        for (int v : WRONG_NODES) {
            due.is("join(0, " + v + ", 5)", x.join(0, v, 5), UNKNOWN);
            due.is("join(" + v + ", 0, 5)", x.join(v, 0, 5), UNKNOWN);
            due.is("join(" + v + ", 0, 0)", x.join(v, 0, 0), UNKNOWN);
        }
        due.is("join(3, 3, 5)", x.join(3, 3, 5), UNKNOWN);
        due.is("join(3, 3, 0)", x.join(3, 3, 0), UNKNOWN);
        due.is("join(0, 1, 0)", x.join(0, 1, 0), OUTSIDE);
        due.is("join(0, 1, 100)", x.join(0, 1, 100), OUTSIDE);
        due.is("join(0, 1, -5)", x.join(0, 1, -5), OUTSIDE);
        due.is("links", x.count(1), 8);
        due.is("acts", x.count(6), 2);
        BunchNotes full = Nets.full();
        due.is("a 31st link", full.join(10, 11, 5), FULL);
        due.is("a 31st link of a wrong length", full.join(10, 11, 100), OUTSIDE);
        due.is("links when full", full.count(1), 30);
        due.is("another length when full", full.join(1, 0, 5), 30);
        due.is("that length", full.link(0, 2), 5);
        full.join(0, 1, 1);
        due.is("another length than 1 when full", full.join(0, 1, 2), 30);
        faultIs(full, "link 0 1 1;link 0 1 99", NONE);
    }

    private static void cut() {
        BunchNotes x = Nets.ring();
        due.is("cut(3, 0)", x.cut(3, 0), 9);
        due.is("cut(0, 3)", x.cut(0, 3), NOT);
        due.is("cut(3, 0) again", x.cut(3, 0), NOT);
        due.is("cut(2, 2)", x.cut(2, 2), NOT);
        due.is("links", x.count(1), 6);
        due.is("distance(0, 3)", x.distance(0, 3), 12);
        due.is("distance(3, 0)", x.distance(3, 0), 12);
        for (int v : WRONG_NODES) {
            due.is("cut(0, " + v + ")", x.cut(0, v), UNKNOWN);
            due.is("cut(" + v + ", 0)", x.cut(v, 0), UNKNOWN);
        }
        due.is("acts", x.count(6), 1);
        x.join(0, 1, 1);
        due.is("cut() of length 1", x.cut(1, 0), 1);
        due.is("links left", x.count(1), 5);
    }

    private static void lift() {
        BunchNotes x = Nets.ring();
        due.is("lift(0, 2)", x.lift(0, 2), 0);
        due.is("lift(0, 2) again", x.lift(0, 2), 2);
        due.is("lift(0, 1)", x.lift(0, 1), 2);
        due.is("lift(0, 0)", x.lift(0, 0), 1);
        due.is("level(0)", x.level(0), 0);
        due.is("acts", x.count(6), 4);
        due.is("lift(0, 3)", x.lift(0, 3), OUTSIDE);
        due.is("lift(0, -1)", x.lift(0, -1), OUTSIDE);
        for (int v : WRONG_NODES) {
            due.is("lift(" + v + ", 0)", x.lift(v, 0), UNKNOWN);
            due.is("lift(" + v + ", 3)", x.lift(v, 3), UNKNOWN);
        }
        due.is("acts still", x.count(6), 4);
    }

    private static void draw() {
        int[] seeds = {0, 1, -1, 5, 12345, Integer.MAX_VALUE, Integer.MIN_VALUE, 987654321, -777};
        for (int seed : seeds) {
            BunchNotes x = Nets.of("net 12;level 0 2;level 1 1");
            long draw = seed & 0xFFFFFFFFL;
            int lifted = 0;
            int[] levels = new int[12];
            for (int v = 0; v < 12; v++) {
                draw = (draw * 69069L + 1L) & 0xFFFFFFFFL;
                long rest = (draw / 65536L) % 8L;
                levels[v] = rest == 0 ? 2 : rest < 3 ? 1 : 0;
                lifted += levels[v] == 0 ? 0 : 1;
            }
            due.is("draw(" + seed + ")", x.draw(seed), lifted);
            for (int v = 0; v < 12; v++) {
                due.is("drawn level of " + v, x.level(v), levels[v]);
            }
            due.is("DRAW", x.count(8), (int) draw);
            due.is("acts", x.count(6), 1);
            due.is("draw(DRAW) goes on", x.draw(x.count(8)), Nets.of("net 12").draw((int) draw));
        }
        BunchNotes two = new BunchNotes();
        two.draw(1);
        due.is("DRAW of two nodes", two.count(8), (1 * 69069 + 1) * 69069 + 1);
    }

    private static void thin() {
        BunchNotes x = Nets.ring();
        due.is("thin(0)", x.thin(0), OUTSIDE);
        due.is("thin(10)", x.thin(10), OUTSIDE);
        due.is("thin(-1)", x.thin(-1), OUTSIDE);
        due.is("acts", x.count(6), 0);
        due.is("thin(1)", x.thin(1), 7);
        due.is("thin(2): by the ring 12 is not more than 18", x.thin(2), 6);
        due.is("the chord is gone", x.cut(0, 3), NOT);
        due.is("thin(4)", x.thin(4), 6);
        due.is("thin(5): 20 is not more than 20", x.thin(5), 5);
        due.is("the last ring link goes", x.cut(4, 5), NOT);
        due.is("thin(9)", x.thin(9), 5);
        due.is("acts", x.count(6), 5);
        due.is("thin() of no links", new BunchNotes().thin(3), 0);
    }

    // ---- promises 13 to 15

    private static void undo() {
        BunchNotes x = Nets.ring();
        due.is("undo() of nothing", x.undo(), NOT);
        x.join(0, 3, 50);
        x.cut(0, 1);
        x.lift(1, 2);
        x.draw(3);
        x.thin(9);
        x.mend();
        due.is("undo thin()", x.undo(), 4);
        due.is("notes stay", x.count(3), 6);
        due.is("links", x.count(1), 6);
        due.is("DRAW is drawn yet", x.count(8), drawnFrom(3, 6));
        due.is("undo draw()", x.undo(), 3);
        due.is("DRAW", x.count(8), 1);
        due.is("level(1)", x.level(1), 2);
        due.is("undo lift()", x.undo(), 2);
        due.is("level(1) was", x.level(1), 0);
        due.is("undo cut()", x.undo(), 1);
        due.is("length of 0 1", x.link(0, 2), 4);
        due.is("undo join()", x.undo(), 0);
        due.is("length of 0 3", x.link(1, 2), 9);
        due.is("undo() of nothing more", x.undo(), NOT);
        due.is("notes are there yet", x.count(3), 6);
        undoOfNothingOther();
        undoOfMany();
    }

    private static int drawnFrom(int seed, int times) {
        int draw = seed;
        for (int i = 0; i < times; i++) {
            draw = draw * 69069 + 1;
        }
        return draw;
    }

    private static void undoOfNothingOther() {
        BunchNotes x = Nets.ring();
        x.join(0, 1, 4);
        x.lift(0, 0);
        x.thin(1);
        due.is("acts by which nothing became other", x.count(6), 3);
        x.join(0, 0, 4);
        x.cut(0, 2);
        x.lift(0, 3);
        x.thin(0);
        due.is("refused acts are none", x.count(6), 3);
        x.note(0);
        x.tear(0);
        x.keep(0);
        due.is("notes and keeping are no acts", x.count(6), 3);
        due.is("undo()", x.undo(), 2);
        due.is("links", x.count(1), 7);
    }

    private static void undoOfMany() {
        BunchNotes x = new BunchNotes();
        for (int l = 1; l <= 20; l++) {
            x.join(0, 1, l);
            due.is("acts", x.count(6), Math.min(l, 8));
        }
        for (int left = 7; left >= 0; left--) {
            due.is("undo()", x.undo(), left);
            due.is("length", x.distance(0, 1), 12 + left);
        }
        due.is("undo() of a ninth", x.undo(), NOT);
        due.is("length", x.distance(0, 1), 12);
        x.join(0, 1, 77);
        due.is("undo() goes on", x.undo(), 0);
        due.is("length", x.distance(0, 1), 12);
    }

    private static void keepAndBack() {
        BunchNotes x = Nets.ring();
        int[] wrong = {-1, 2, 3, Integer.MAX_VALUE, Integer.MIN_VALUE};
        for (int k : wrong) {
            due.is("keep(" + k + ")", x.keep(k), OUTSIDE);
            due.is("back(" + k + ")", x.back(k), OUTSIDE);
        }
        x.note(1);
        x.note(4);
        x.draw(9);
        due.is("keep(0)", x.keep(0), 2);
        due.is("acts behind keep()", x.count(6), 1);
        due.is("back(1)", x.back(1), NOT);
        int noted = x.noted(1, 7);
        int drawn = x.count(8);
        int level = x.level(2);
        x.draw(10);
        x.lift(2, (level + 1) % 3);
        x.cut(0, 1);
        x.mend();
        x.tear(4);
        due.is("keep(1)", x.keep(1), 5);
        due.is("back(0)", x.back(0), 2);
        due.is("nothing can be undone", x.undo(), NOT);
        due.is("acts", x.count(6), 0);
        due.is("links", x.count(1), 7);
        due.is("level", x.level(2), level);
        due.is("DRAW", x.count(8), drawn);
        due.is("note", x.noted(1, 7), noted);
        due.is("note of 4 is there", x.tear(4), 1);
        due.is("note of 0 is blank", x.noted(0, 7), NOT);
        due.is("back(1)", x.back(1), 5);
        due.is("links of 1", x.count(1), 6);
        due.is("back(0) again", x.back(0), 2);
        x.tear(1);
        due.is("keep(0) anew", x.keep(0), 1);
        x.mend();
        due.is("back(0) anew", x.back(0), 1);
        Nets.typeAll(x, "level 0 0");
        x.net();
        due.is("back(0) behind a text", x.back(0), NOT);
        due.is("back(1) behind a text", x.back(1), NOT);
        due.is("keep(1) behind a text", x.keep(1), 1);
        due.is("back(1) behind that", x.back(1), 1);
        due.is("back(0) behind that", x.back(0), NOT);
    }

    // ---- promises 16 to 21

    private static void distance() {
        BunchNotes x = Nets.ring();
        int[][] want = {
            {0, 4, 8, 9, 8, 4}, {4, 0, 4, 8, 12, 8}, {8, 4, 0, 4, 8, 12},
            {9, 8, 4, 0, 4, 8}, {8, 12, 8, 4, 0, 4}, {4, 8, 12, 8, 4, 0}};
        for (int u = 0; u < 6; u++) {
            for (int v = 0; v < 6; v++) {
                due.is("distance(" + u + ", " + v + ")", x.distance(u, v), want[u][v]);
            }
        }
        for (int v : WRONG_NODES) {
            due.is("distance(0, " + v + ")", x.distance(0, v), UNKNOWN);
            due.is("distance(" + v + ", " + v + ")", x.distance(v, v), UNKNOWN);
        }
        BunchNotes two = Nets.of("net 5;link 0 1 99;link 1 2 99;link 3 4 1");
        due.is("distance by two links", two.distance(2, 0), 198);
        due.is("distance of parts", two.distance(0, 4), NONE);
        due.is("distance of itself", two.distance(4, 4), 0);
        BunchNotes chain = Nets.of("net 12");
        for (int v = 1; v < 12; v++) {
            chain.join(v - 1, v, 99);
        }
        due.is("the longest", chain.distance(0, 11), 1089);
    }

    private static void nearest() {
        BunchNotes x = Nets.ring();
        int[] first = {2, 2, 2, 2, 4, 4};
        int[] firstFar = {8, 4, 0, 4, 0, 4};
        int[] secondFar = {8, 12, 8, 4, 0, 4};
        for (int v = 0; v < 6; v++) {
            due.is("nearest(" + v + ", 0, 0)", x.nearest(v, 0, 0), v);
            due.is("nearest(" + v + ", 0, 1)", x.nearest(v, 0, 1), 0);
            due.is("nearest(" + v + ", 1, 0), of like ones the lowest", x.nearest(v, 1, 0), first[v]);
            due.is("nearest(" + v + ", 1, 1)", x.nearest(v, 1, 1), firstFar[v]);
            due.is("nearest(" + v + ", 2, 0)", x.nearest(v, 2, 0), 4);
            due.is("nearest(" + v + ", 2, 1)", x.nearest(v, 2, 1), secondFar[v]);
        }
        for (int v : WRONG_NODES) {
            due.is("nearest(" + v + ", 3, 2)", x.nearest(v, 3, 2), UNKNOWN);
        }
        due.is("nearest(0, 3, 0)", x.nearest(0, 3, 0), OUTSIDE);
        due.is("nearest(0, -1, 0)", x.nearest(0, -1, 0), OUTSIDE);
        due.is("nearest(0, 0, 2)", x.nearest(0, 0, 2), OUTSIDE);
        due.is("nearest(0, 0, -1)", x.nearest(0, 0, -1), OUTSIDE);
        BunchNotes apart = Nets.of("net 3;link 0 1 5;level 2 2");
        due.is("no way to a centre", apart.nearest(0, 1, 0), NONE);
        due.is("no way to a centre, how far", apart.nearest(0, 1, 1), NONE);
        due.is("a centre itself", apart.nearest(2, 1, 0), 2);
    }

    private static void bunch() {
        BunchNotes x = Nets.ring();
        int[] bunches = {Nets.set(0, 1, 4, 5), Nets.set(1, 2, 4), Nets.set(2, 4),
            Nets.set(3, 4), Nets.set(4), Nets.set(4, 5)};
        int[] clusters = {Nets.set(0), Nets.set(0, 1), Nets.set(1, 2),
            Nets.set(3), Nets.set(0, 1, 2, 3, 4, 5), Nets.set(0, 5)};
        for (int v = 0; v < 6; v++) {
            due.is("bunch(" + v + ", 0)", x.bunch(v, 0), bunches[v]);
            due.is("bunch(" + v + ", 1)", x.bunch(v, 1), clusters[v]);
        }
        for (int v : WRONG_NODES) {
            due.is("bunch(" + v + ", 2)", x.bunch(v, 2), UNKNOWN);
        }
        due.is("bunch(0, 2)", x.bunch(0, 2), OUTSIDE);
        due.is("bunch(0, -1)", x.bunch(0, -1), OUTSIDE);
        BunchNotes flat = Nets.of("net 4;link 0 1 5;link 1 2 5");
        due.is("no level above: all to which there is a way", flat.bunch(2, 0), Nets.set(0, 1, 2));
        due.is("and the cluster", flat.bunch(2, 1), Nets.set(0, 1, 2));
        due.is("a node by itself", flat.bunch(3, 0), Nets.set(3));
        BunchNotes top = Nets.of("net 3;link 0 1 5;link 1 2 5;level 0 2;level 2 2");
        due.is("of the top level all", top.bunch(0, 0), Nets.set(0, 2));
        due.is("1 is nearer to itself", top.bunch(1, 0), Nets.set(0, 1, 2));
    }

    private static void next() {
        BunchNotes x = Nets.ring();
        due.is("next(0, 3), the chord", x.next(0, 3), 3);
        due.is("next(1, 4), of like ways the lowest", x.next(1, 4), 0);
        due.is("next(4, 1)", x.next(4, 1), 3);
        due.is("next(2, 5)", x.next(2, 5), 1);
        due.is("next(5, 4)", x.next(5, 4), 4);
        due.is("next(2, 2)", x.next(2, 2), NONE);
        for (int v : WRONG_NODES) {
            due.is("next(0, " + v + ")", x.next(0, v), UNKNOWN);
            due.is("next(" + v + ", " + v + ")", x.next(v, v), UNKNOWN);
        }
        BunchNotes apart = Nets.of("net 3;link 0 1 5");
        due.is("next without a way", apart.next(0, 2), NONE);
        BunchNotes around = Nets.of("net 3;link 0 2 9;link 0 1 4;link 1 2 4");
        due.is("next around a long link", around.next(0, 2), 1);
        around.join(0, 2, 8);
        due.is("like ways, the lowest", around.next(0, 2), 1);
        due.is("like ways, from the other side", around.next(2, 0), 0);
    }

    private static void thinned() {
        BunchNotes x = Nets.ring();
        int[] counts = {7, 6, 6, 6, 5, 5, 5, 5, 5};
        for (int t = 1; t <= 9; t++) {
            due.is("thinned(" + t + ", NONE)", x.thinned(t, NONE), counts[t - 1]);
            due.is("thinned(" + t + ", 1), the chord", x.thinned(t, 1), t == 1 ? 1 : 0);
            due.is("thinned(" + t + ", 6), the last of like ones", x.thinned(t, 6), t < 5 ? 1 : 0);
            due.is("thinned(" + t + ", 0)", x.thinned(t, 0), 1);
        }
        due.is("thinned(0, NONE)", x.thinned(0, NONE), OUTSIDE);
        due.is("thinned(10, NONE)", x.thinned(10, NONE), OUTSIDE);
        due.is("thinned(0, 7)", x.thinned(0, 7), OUTSIDE);
        due.is("thinned(1, 7)", x.thinned(1, 7), UNKNOWN);
        due.is("thinned(1, -2)", x.thinned(1, -2), UNKNOWN);
        due.is("nothing goes", x.count(1), 7);
        x.cut(0, 1);
        due.is("thinned() behind cut()", x.thinned(2, NONE), 5);
        due.is("the chord is not taken: 12 is not more than 18", x.thinned(2, 0), 0);
        x.cut(4, 5);
        due.is("thinned() behind another", x.thinned(2, NONE), 5);
        due.is("the chord is taken: there is no other way", x.thinned(9, 0), 1);
    }

    private static void worst() {
        BunchNotes x = Nets.ring();
        int[][] want = {{1, 1}, {4, 3}, {4, 3}, {4, 3}, {5, 1}, {5, 1}, {5, 1}, {5, 1}, {5, 1}};
        for (int t = 1; t <= 9; t++) {
            due.is("worst(" + t + ", 0)", x.worst(t, 0), want[t - 1][0]);
            due.is("worst(" + t + ", 1)", x.worst(t, 1), want[t - 1][1]);
        }
        due.is("worst(0, 0)", x.worst(0, 0), OUTSIDE);
        due.is("worst(10, 0)", x.worst(10, 0), OUTSIDE);
        due.is("worst(1, 2)", x.worst(1, 2), OUTSIDE);
        due.is("worst(1, -1)", x.worst(1, -1), OUTSIDE);
        due.is("worst() without a pair", new BunchNotes().worst(1, 0), NONE);
        due.is("worst() without a pair, below", new BunchNotes().worst(1, 1), NONE);
        BunchNotes one = Nets.of("link 0 1 7");
        due.is("worst() of one pair", one.worst(9, 0), 1);
        due.is("worst() of one pair, below", one.worst(9, 1), 1);
        BunchNotes apart = Nets.of("net 4;link 0 1 6;link 1 2 4;link 0 2 4");
        due.is("in least terms, above", apart.worst(2, 0), 4);
        due.is("in least terms, below", apart.worst(2, 1), 3);
    }

    // ---- promises 22 to 26

    private static void note() {
        BunchNotes x = Nets.ring();
        int[] sizes = {4, 3, 2, 2, 1, 2};
        for (int v = 0; v < 6; v++) {
            due.is("note(" + v + ")", x.note(v), sizes[v]);
            due.is("notes", x.count(3), v + 1);
        }
        due.is("all are fresh", x.count(4), 6);
        x.cut(0, 1);
        due.is("note(0) again", x.note(0), 3);
        due.is("it bears what is now", x.noted(0, 7), Nets.set(0, 4, 5));
        for (int v : WRONG_NODES) {
            due.is("note(" + v + ")", x.note(v), UNKNOWN);
        }
    }

    private static void mend() {
        BunchNotes x = Nets.ring();
        x.note(3);
        due.is("mend() of blank ones", x.mend(), 5);
        due.is("mend() again", x.mend(), 0);
        x.join(3, 4, 3);
        int[] fresh = {1, 0, 0, 0, 1, 1};
        for (int v = 0; v < 6; v++) {
            due.is("noted(" + v + ", 0)", x.noted(v, 0), fresh[v]);
        }
        due.is("mend() of old ones", x.mend(), 3);
        due.is("all are fresh", x.count(4), 6);
        x.undo();
        due.is("old by undo()", x.count(4), 3);
    }

    private static void tear() {
        BunchNotes x = Nets.ring();
        x.mend();
        due.is("tear(2)", x.tear(2), 1);
        due.is("tear(2) again", x.tear(2), 0);
        due.is("notes", x.count(3), 5);
        due.is("fresh ones", x.count(4), 5);
        due.is("it is blank", x.noted(2, 7), NOT);
        for (int v : WRONG_NODES) {
            due.is("tear(" + v + ")", x.tear(v), UNKNOWN);
        }
    }

    private static void noted() {
        BunchNotes x = Nets.ring();
        due.is("noted(0, 0) of a blank one", x.noted(0, 0), 0);
        for (int what = 1; what <= 7; what++) {
            due.is("noted(0, " + what + ") of a blank one", x.noted(0, what), NOT);
        }
        due.is("noted(0, 8)", x.noted(0, 8), OUTSIDE);
        due.is("noted(0, -1)", x.noted(0, -1), OUTSIDE);
        for (int v : WRONG_NODES) {
            due.is("noted(" + v + ", 8)", x.noted(v, 8), UNKNOWN);
        }
        x.mend();
        int[] want = {1, 1, 2, 4, 0, 4, 12, Nets.set(1, 2, 4)};
        for (int what = 0; what <= 7; what++) {
            due.is("noted(1, " + what + ")", x.noted(1, what), want[what]);
        }
        x.lift(4, 0);
        x.lift(2, 0);
        x.cut(0, 1);
        want[0] = 0;
        for (int what = 0; what <= 7; what++) {
            due.is("noted(1, " + what + ") of an old one", x.noted(1, what), want[what]);
        }
        due.is("noted(1, 8)", x.noted(1, 8), OUTSIDE);
        x.note(1);
        due.is("no nearest at level 1", x.noted(1, 2), NONE);
        due.is("no nearest at level 2", x.noted(1, 3), NONE);
        due.is("how far at level 1", x.noted(1, 5), NONE);
        due.is("how far at level 2", x.noted(1, 6), NONE);
        due.is("all in the bunch", x.noted(1, 7), Nets.set(0, 1, 2, 3, 4, 5));
        freshByAccident();
    }

    /** A note counts as fresh again when all it bears is true again. */
    private static void freshByAccident() {
        BunchNotes x = Nets.of("net 3;link 0 1 5;link 1 2 5");
        x.mend();
        x.join(0, 2, 10);
        due.is("a link that changes no distance", x.count(4), 3);
        x.join(0, 2, 9);
        due.is("one that changes two of the notes", x.count(4), 1);
        x.join(0, 2, 11);
        due.is("and back", x.count(4), 3);
        x.lift(0, 1);
        due.is("a level by which nearest ones change", x.count(4), 0);
        BunchNotes y = Nets.of("net 3;link 0 1 5;link 0 2 5;level 2 2");
        y.note(0);
        y.lift(1, 1);
        due.is("another nearest, as far, in the same bunch: 1", y.nearest(0, 1, 0), 1);
        due.is("the same bunch", y.bunch(0, 0), y.noted(0, 7));
        due.is("yet it is old", y.noted(0, 0), 0);
    }

    private static void notedFar() {
        BunchNotes x = Nets.ring();
        due.is("notedFar() of a blank one", x.notedFar(0, 0), NONE);
        x.mend();
        int[] want = {0, 4, NONE, NONE, 8, 4};
        for (int w = 0; w < 6; w++) {
            due.is("notedFar(0, " + w + ")", x.notedFar(0, w), want[w]);
        }
        x.join(0, 1, 1);
        due.is("as it was when written", x.notedFar(0, 1), 4);
        x.tear(0);
        due.is("notedFar() of a torn one", x.notedFar(0, 1), NONE);
        for (int v : WRONG_NODES) {
            due.is("notedFar(0, " + v + ")", x.notedFar(0, v), UNKNOWN);
            due.is("notedFar(" + v + ", 0)", x.notedFar(v, 0), UNKNOWN);
        }
    }

    // ---- promises 27 to 31

    private static void toldIs(BunchNotes x, int u, int v, int far, int by, int level) {
        due.is("told(" + u + ", " + v + ", 0)", x.told(u, v, 0), far);
        due.is("told(" + u + ", " + v + ", 1)", x.told(u, v, 1), by);
        due.is("told(" + u + ", " + v + ", 2)", x.told(u, v, 2), level);
        for (int what = 0; what < 3; what++) {
            int reason = x.why(u, v, what);
            due.holds("why(" + u + ", " + v + ", " + what + ")", (reason == NONE) == (far != NONE));
        }
    }

    private static void whyIs(BunchNotes x, int u, int v, int reason, int level, int node) {
        due.is("why(" + u + ", " + v + ", 0)", x.why(u, v, 0), reason);
        due.is("why(" + u + ", " + v + ", 1)", x.why(u, v, 1), level);
        due.is("why(" + u + ", " + v + ", 2)", x.why(u, v, 2), node);
        toldIs(x, u, v, NONE, NONE, NONE);
    }

    private static void told() {
        BunchNotes x = Nets.ring();
        toldIs(x, 0, 0, NONE, NONE, NONE);
        x.mend();
        toldIs(x, 3, 3, 0, 3, 0);
        toldIs(x, 1, 0, 4, 1, 0);
        toldIs(x, 0, 1, 20, 4, 2);
        toldIs(x, 4, 0, 8, 4, 0);
        toldIs(x, 0, 4, 8, 4, 1);
        toldIs(x, 0, 2, 16, 4, 2);
        toldIs(x, 2, 0, 8, 2, 1);
        toldIs(x, 2, 1, 4, 2, 0);
        toldIs(x, 1, 2, 4, 2, 1);
        x.cut(4, 5);
        x.cut(3, 4);
        toldIs(x, 0, 4, 8, 4, 1);
        for (int v : WRONG_NODES) {
            due.is("told(0, " + v + ", 3)", x.told(0, v, 3), UNKNOWN);
            due.is("told(" + v + ", 0, 0)", x.told(v, 0, 0), UNKNOWN);
        }
        due.is("told(0, 1, 3)", x.told(0, 1, 3), OUTSIDE);
        due.is("told(0, 1, -1)", x.told(0, 1, -1), OUTSIDE);
    }

    private static void why() {
        BunchNotes x = Nets.ring();
        whyIs(x, 2, 5, 1, 0, 2);
        x.note(2);
        whyIs(x, 2, 5, 1, 0, 5);
        whyIs(x, 5, 2, 1, 0, 5);
        BunchNotes apart = Nets.of("net 4;link 0 1 5;link 2 3 5");
        apart.mend();
        whyIs(apart, 0, 2, 2, 1, 2);
        whyIs(apart, 3, 1, 2, 1, 1);
        apart.lift(2, 1);
        apart.mend();
        whyIs(apart, 0, 3, 2, 2, 0);
        whyIs(apart, 3, 0, 2, 1, 0);
        apart.lift(0, 2);
        apart.mend();
        whyIs(apart, 0, 3, 3, 2, 3);
        whyIs(apart, 1, 2, 3, 2, 2);
        whyIs(apart, 3, 0, 2, 2, 3);
        for (int v : WRONG_NODES) {
            due.is("why(0, " + v + ", 3)", apart.why(0, v, 3), UNKNOWN);
            due.is("why(" + v + ", 0, 0)", apart.why(v, 0, 0), UNKNOWN);
        }
        due.is("why(0, 3, 3)", apart.why(0, 3, 3), OUTSIDE);
        due.is("why(0, 3, -1)", apart.why(0, 3, -1), OUTSIDE);
        due.is("why(0, 1, 3), who are told", apart.why(0, 1, 3), OUTSIDE);
        due.is("why(0, 1, 0), who are told", apart.why(0, 1, 0), NONE);
    }

    private static void routeIs(BunchNotes x, int u, int v, int... way) {
        for (int k = 0; k < way.length; k++) {
            due.is("route(" + u + ", " + v + ", " + k + ")", x.route(u, v, k), way[k]);
        }
        int[] none = {-1, Integer.MIN_VALUE, way.length, way.length + 1, 23, Integer.MAX_VALUE};
        for (int k : none) {
            if (k < 0 || k >= way.length) {
                due.is("route(" + u + ", " + v + ", " + k + ")", x.route(u, v, k), NONE);
            }
        }
    }

    private static void route() {
        BunchNotes x = Nets.ring();
        due.is("route() untold", x.route(0, 1, 0), NOT);
        due.is("route() untold, k below 0", x.route(0, 1, -1), NOT);
        x.mend();
        routeIs(x, 0, 3, 0, 5, 4, 3);
        routeIs(x, 0, 1, 0, 5, 4, 3, 2, 1);
        routeIs(x, 3, 3, 3);
        routeIs(x, 1, 0, 1, 0);
        routeIs(x, 0, 4, 0, 5, 4);
        x.join(0, 4, 1);
        routeIs(x, 0, 1, 0, 4, 0, 1);
        for (int v : WRONG_NODES) {
            due.is("route(0, " + v + ", 0)", x.route(0, v, 0), UNKNOWN);
            due.is("route(" + v + ", 0, -1)", x.route(v, 0, -1), UNKNOWN);
        }
        x.cut(0, 4);
        x.cut(4, 5);
        x.cut(3, 4);
        due.is("no way to w", x.route(0, 3, 0), NOT);
        due.is("no way to w, k below 0", x.route(0, 3, -1), NOT);
        BunchNotes line = Nets.of("net 3;link 0 1 5;link 1 2 5");
        line.mend();
        line.cut(1, 2);
        due.is("no way from w to v", line.route(0, 2, 0), NOT);
        due.is("yet it is told", line.told(0, 2, 0), 10);
        longRoute();
    }

    /** Eleven steps to the centre at one end of a chain, and ten back. */
    private static void longRoute() {
        BunchNotes x = Nets.of("net 12;level 0 1;level 11 2");
        for (int v = 1; v < 11; v++) {
            x.join(v, v + 1, 9);
        }
        x.join(0, 1, 99);
        x.mend();
        due.is("told by the far end", x.told(0, 1, 1), 11);
        int[] way = new int[22];
        for (int k = 0; k < 12; k++) {
            way[k] = k;
        }
        for (int k = 12; k < 22; k++) {
            way[k] = 22 - k;
        }
        routeIs(x, 0, 1, way);
    }

    private static void pairs() {
        BunchNotes x = Nets.ring();
        due.is("pairs(0) of blank notes", x.pairs(0), NONE);
        due.is("pairs(1) of blank notes", x.pairs(1), NONE);
        due.is("pairs(2) of blank notes", x.pairs(2), 0);
        due.is("pairs(3) of blank notes", x.pairs(3), 15);
        x.mend();
        due.is("pairs(0)", x.pairs(0), 0);
        due.is("pairs(1)", x.pairs(1), 1);
        due.is("pairs(2)", x.pairs(2), 15);
        due.is("pairs(3)", x.pairs(3), 0);
        x.tear(5);
        due.is("pairs(2) with a torn one", x.pairs(2), 10);
        due.is("pairs(3) with a torn one", x.pairs(3), 5);
        x.cut(4, 5);
        x.cut(0, 5);
        due.is("pairs(3) without a way", x.pairs(3), 0);
        due.is("pairs(4)", x.pairs(4), OUTSIDE);
        due.is("pairs(-1)", x.pairs(-1), OUTSIDE);
        BunchNotes alike = Nets.of("net 4;link 0 1 5;link 2 3 5");
        alike.mend();
        due.is("of like ones the lower u", alike.pairs(0), 0);
        due.is("of like ones the lower v", alike.pairs(1), 1);
        alike.join(2, 3, 4);
        due.is("old notes, u", alike.pairs(0), 2);
        due.is("old notes, v", alike.pairs(1), 3);
        alike.join(2, 3, 99);
        due.is("less than it is counts as well", alike.pairs(0), 0);
        alike.join(0, 3, 1);
        alike.join(1, 2, 1);
        due.is("pairs told", alike.pairs(2), 2);
        due.is("pairs untold", alike.pairs(3), 4);
    }

    private static void count() {
        BunchNotes x = Nets.ring();
        x.mend();
        x.tear(0);
        x.join(3, 4, 3);
        x.draw(5);
        Nets.typeAll(x, "abc");
        x.undo();
        int[] want = {6, 7, 1, 5, 2, 10, 1, 3, 1, 4, 1, 1};
        for (int what = 0; what < want.length; what++) {
            due.is("count(" + what + ")", x.count(what), want[what]);
        }
        due.is("count(12)", x.count(12), OUTSIDE);
        due.is("count(-1)", x.count(-1), OUTSIDE);
        due.is("count(max)", x.count(Integer.MAX_VALUE), OUTSIDE);
        BunchNotes parts = Nets.of("net 9;link 8 0 5;link 2 3 5;link 3 4 5;link 1 8 1");
        due.is("parts", parts.count(2), 5);
        parts.join(4, 0, 1);
        due.is("parts joined", parts.count(2), 4);
    }
}
