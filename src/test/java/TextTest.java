/** The text: part 3 of the terms and promises 2 to 5, sentence by sentence, each at its edges. */
public final class TextTest {
    private static final int NONE = -1, UNKNOWN = -2, OUTSIDE = -3, NOT = -4, FULL = -5;

    private static final Due due = new Due();

    private TextTest() {
    }

    public static void main(String[] args) {
        letters();
        twoHundredLetters();
        erased();
        eachLetterAsToken();
        blanks();
        forms();
        endTooSoon();
        clausesTwentyFour();
        numbersOfNodes();
        nodesAsThereAre();
        lengths();
        levels();
        digits();
        nodeTwice();
        linkThirtyOne();
        linkThirtyOneInTheText();
        firstFaultOfSeveral();
        inTheirOrder();
        whatThereWasStays();
        nothingToUndoOrKept();
        countOfClauses();
        refusedText();
        due.end();
    }

    private static void faultIs(String text, int want) {
        faultIs(new BunchNotes(), text, want);
    }

    /** Asks twice, and net() too: it is NOT just where there is a fault. */
    private static void faultIs(BunchNotes x, String text, int want) {
        x.erase();
        Nets.typeAll(x, text);
        due.is("fault() of '" + text + "'", x.fault(), want);
        due.is("fault() of '" + text + "' again", x.fault(), want);
        due.is("letters of '" + text + "'", x.count(7), text.length());
        due.holds("net() of '" + text + "'", (x.net() == NOT) == (want != NONE));
        due.is("letters behind net()", x.count(7), want == NONE ? 0 : text.length());
    }

    /** "A letter (its number, 0 to 255)". */
    private static void letters() {
        BunchNotes low = new BunchNotes();
        BunchNotes high = new BunchNotes();
        for (int letter = 0; letter < 128; letter++) {
            due.is("type(" + letter + ")", low.type(letter), letter + 1);
            due.is("type(" + (letter + 128) + ")", high.type(letter + 128), letter + 1);
        }
        for (int letter : new int[] {-1, 256, -256, 288, 65, Integer.MIN_VALUE, Integer.MAX_VALUE}) {
            boolean inside = letter == 65;
            due.is("type(" + letter + ")", low.type(letter), inside ? 129 : OUTSIDE);
        }
        due.is("letters", low.count(7), 129);
    }

    /** "a row of letters, 200 at most". */
    private static void twoHundredLetters() {
        BunchNotes x = new BunchNotes();
        for (int i = 1; i <= 195; i++) {
            due.is("letter " + i, x.type(' '), i);
        }
        Nets.typeAll(x, "net 1");
        due.is("letters", x.count(7), 200);
        due.is("the 201st", x.type('2'), FULL);
        due.is("the 201st, wrong", x.type(256), OUTSIDE);
        due.is("letters", x.count(7), 200);
        due.is("fault(), not of net 12", x.fault(), 199);
        due.is("net()", x.net(), NOT);
        due.is("erase()", x.erase(), 200);
        due.is("type again", x.type('n'), 1);
        faultIs(" ".repeat(195) + "net 2", NONE);
        faultIs("net 2" + " ".repeat(195), NONE);
        faultIs("net" + " ".repeat(196) + "2", NONE);
        faultIs(" ".repeat(199), 199);
        faultIs(" ".repeat(200), 200);
        faultIs(" ".repeat(197) + "net", 200);
        faultIs("net 2" + " ".repeat(194) + ";", 200);
        faultIs(" ".repeat(199) + "x", 199);
        faultIs("1".repeat(200), 0);
        faultIs("net" + "1".repeat(197), 3);
        faultIs("n".repeat(200), 0);
    }

    /** "THE TEXT is empty: how many letters it had." */
    private static void erased() {
        BunchNotes x = new BunchNotes();
        due.is("erase() of nothing", x.erase(), 0);
        x.type('n');
        due.is("erase() of one", x.erase(), 1);
        due.is("letters", x.count(7), 0);
        due.is("fault() of nothing", x.fault(), 0);
        Nets.typeAll(x, "et 5");
        due.is("the letter is gone", x.fault(), 0);
        x.erase();
        Nets.typeAll(x, "net 5");
        due.is("net()", x.net(), 1);
        due.is("erase() behind net()", x.erase(), 0);
    }

    /** "a row of small letters, a row of digits, any other letter but a blank". */
    private static void eachLetterAsToken() {
        for (int letter = 0; letter < 256; letter++) {
            char sign = (char) letter;
            boolean small = letter >= 'a' && letter <= 'z';
            boolean digit = letter >= '0' && letter <= '9';
            boolean blank = letter == ' ';
            faultIs("" + sign, blank ? 1 : 0);
            faultIs(sign + "net 3", blank ? NONE : 0);
            faultIs("net" + sign + "3", blank ? NONE : small ? 0 : digit && letter != '0' ? 3 : digit ? NONE : 3);
            faultIs("net 3" + sign, blank ? NONE : digit ? 4 : letter == ';' ? 6 : 5);
            faultIs("net " + sign, digit && letter > '1' ? NONE : blank ? 5 : 4);
        }
    }

    /** "blanks may stand ahead of, between and behind TOKENS, and need not, where TOKENS end without". */
    private static void blanks() {
        faultIs("net3;link0 1 5;level2 1", NONE);
        faultIs("   net   3   ;   link   0   1   5   ;   level   2   1   ", NONE);
        faultIs(" net3 ;link0 1 5 ;level2 1 ", NONE);
        faultIs("n et 3", 0);
        faultIs("ne t3", 0);
        faultIs("net 1 2", 4);
        faultIs("net 2 1", 6);
        faultIs("link01 5", 7);
        faultIs("link 01 5", 8);
        faultIs("link 1 05", 7);
        faultIs("link 0 1 5 0", 11);
        faultIs("level 01", 8);
        faultIs("level 0 1 ; ", 12);
    }

    /** "each is one of: net N. link U V L. level V I. (As written here, without points ...)". */
    private static void forms() {
        faultIs("net 3.", 5);
        faultIs("net. 3", 3);
        faultIs("Net 3", 0);
        faultIs("NET 3", 0);
        faultIs("ne 3", 0);
        faultIs("nett 3", 0);
        faultIs("lin 0 1 5", 0);
        faultIs("links 0 1 5", 0);
        faultIs("leve 0 1", 0);
        faultIs("levels 0 1", 0);
        faultIs("let 3", 0);
        faultIs("netlevel 0 1", 0);
        faultIs("net level 0 1", 4);
        faultIs("net 3 level 0 1", 6);
        faultIs("net 3 4", 6);
        faultIs("link 0 1 5 5", 11);
        faultIs("link 0 1 5 link", 11);
        faultIs("level 0 1 1", 10);
        faultIs("net ;", 4);
        faultIs("link ; 0 1 5", 5);
        faultIs("link 0; 1 5", 6);
        faultIs("link 0 1; 5", 8);
        faultIs("link 0 link 5", 7);
        faultIs("level ; 0 1", 6);
        faultIs("level 0; 1", 7);
        faultIs("level x 1", 6);
        faultIs("level 0 x", 8);
        faultIs("net 3,net 4", 5);
        faultIs("net 3:net 4", 5);
        faultIs(";", 0);
        faultIs(" ;net 3", 1);
        faultIs("net 3;;net 4", 6);
        faultIs("net 3; ;net 4", 7);
        faultIs("net 3;3", 6);
        faultIs("net -3", 4);
        faultIs("net +3", 4);
    }

    /** "or at the end, if it comes too soon": the length, blanks behind counted. */
    private static void endTooSoon() {
        String[] wanting = {"", "net", "net 3;", "link", "link 0", "link 0 1", "level", "level 0", "net 3;link",
            "net 3;link 2", "net 3;link 2 1", "net 3;level", "net 3;level 2", "net 3;level 2 1;"};
        for (String text : wanting) {
            faultIs(text, text.length());
            faultIs(text + " ", text.length() + 1);
            faultIs(text + "   ", text.length() + 3);
            faultIs("  " + text, text.length() + 2);
        }
    }

    /** "CLAUSES with ; between, 24 at most". */
    private static void clausesTwentyFour() {
        faultIs(Nets.times("net2", 23), NONE);
        faultIs(Nets.times("net2", 24), NONE);
        faultIs(Nets.times("net2", 25), 119);
        faultIs(Nets.times("net2", 40), 119);
        faultIs(Nets.times("net2", 24) + ";", 119);
        faultIs(Nets.times("net2", 24) + "  ;", 121);
        faultIs(Nets.times("net2", 24) + " ", NONE);
        faultIs(Nets.times("net2", 24) + " net", 120);
        faultIs(Nets.times("net2", 23) + ";", 115);
        faultIs(Nets.times("net2", 23) + ";net 1", 119);
        BunchNotes x = new BunchNotes();
        Nets.typeAll(x, Nets.times("level0 1", 20) + ";net2;net3;net4;net5");
        due.is("net() of 24", x.net(), 24);
        due.is("the 24th is done", x.count(0), 5);
    }

    /** "net: N NODES", n 2 to 12. */
    private static void numbersOfNodes() {
        for (int n = 0; n <= 99; n++) {
            boolean inside = n >= 2 && n <= 12;
            faultIs("net " + n, inside ? NONE : 4);
            faultIs("level 1 1;net " + n + ";level 1 2", inside ? NONE : 14);
        }
    }

    /** "NODES as there are by then". */
    private static void nodesAsThereAre() {
        for (int n = 2; n <= 12; n++) {
            String net = "net " + n + ";";
            int at = net.length();
            int last = n - 1;
            int wide = n > 10 ? 2 : 1;
            faultIs(net + "link " + last + " 0 5", NONE);
            faultIs(net + "link " + n + " 0 5", at + 5);
            faultIs(net + "link 0 " + last + " 5", NONE);
            faultIs(net + "link 0 " + n + " 5", at + 7);
            faultIs(net + "level " + last + " 2", NONE);
            faultIs(net + "level " + n + " 2", at + 6);
            faultIs(net + "level " + last + " 2;net 2;level " + last + " 2", n == 2 ? NONE : at + 21 + wide);
            faultIs(Nets.of("net " + n), "level " + last + " 1;link 0 " + last + " 1", NONE);
            faultIs(Nets.of("net " + n), "level " + n + " 1", 6);
            faultIs(Nets.of("net " + n), "link " + n + " 0 1", 5);
            faultIs(Nets.of("net " + n), "link 0 " + n + " 1", 7);
        }
        faultIs("level 2 1;net 3", 6);
        faultIs("net 3;level 2 1", NONE);
        faultIs(Nets.of("net 12"), "net 3;level 3 1", 12);
        faultIs("level 0 0;level 1 0;level 99 0", 26);
    }

    /** "has LENGTH L (1 to 99)". */
    private static void lengths() {
        for (int l = 0; l <= 99; l++) {
            BunchNotes x = new BunchNotes();
            faultIs(x, "link 1 0 " + l, l == 0 ? 9 : NONE);
            due.is("its length", x.distance(0, 1), l == 0 ? NONE : l);
        }
        faultIs("link 0 1 00", 9);
        faultIs("link 0 1 01", NONE);
        faultIs("link 0 1 100", 9);
        faultIs("link 0 1 099", 9);
    }

    /** "level: LEVEL of V is I". */
    private static void levels() {
        for (int i = 0; i <= 99; i++) {
            BunchNotes x = new BunchNotes();
            faultIs(x, "level 1 " + i, i <= 2 ? NONE : 8);
            due.is("its level", x.level(1), i <= 2 ? i : 0);
        }
        faultIs("level 1 00", NONE);
        faultIs("level 1 02", NONE);
        faultIs("level 1 03", 8);
        faultIs("level 1 002", 8);
        faultIs("level 1 -1", 8);
    }

    /** "numbers of 1 or 2 digits": a third is a fault, also where the number would do. */
    private static void digits() {
        faultIs("net 02", NONE);
        faultIs("net 002", 4);
        faultIs("net 012", 4);
        faultIs("net 120", 4);
        faultIs("link 00 01 07", NONE);
        faultIs("link 000 01 07", 5);
        faultIs("link 00 001 07", 8);
        faultIs("link 00 01 007", 11);
        faultIs("level 01 01", NONE);
        faultIs("level 001 01", 6);
        faultIs("level 01 001", 9);
        faultIs("net 4294967298", 4);
        faultIs("link 0 1 4294967297", 9);
        faultIs("level 0 18446744073709551616", 8);
        BunchNotes x = new BunchNotes();
        faultIs(x, "net 09;link 08 07 06;level 05 02", NONE);
        due.is("nodes", x.count(0), 9);
        due.is("length", x.distance(7, 8), 6);
        due.is("level", x.level(5), 2);
    }

    /** "a V that is U". */
    private static void nodeTwice() {
        faultIs("link 0 0 5", 7);
        faultIs("link 1 1 5", 7);
        faultIs("link 1 01 5", 7);
        faultIs("link 01 1 5", 8);
        faultIs("link 1 1", 7);
        faultIs("link 1 1 0", 7);
        faultIs("link 1 0 1", NONE);
        faultIs("net 12;link 11 11 5", 15);
        faultIs("net 12;link 10 11 5", NONE);
        faultIs("link 2 2 5", 5);
    }

    /** "a V ... by which there would be a 31st LINK", of a net that is full ahead of the text. */
    private static void linkThirtyOne() {
        faultIs(Nets.full(), "link 10 11 7", 8);
        faultIs(Nets.full(), "link 11 10 7", 8);
        faultIs(Nets.full(), "link 10 11", 8);
        faultIs(Nets.full(), "link 10 11 0", 8);
        faultIs(Nets.full(), "link 10 11 100", 8);
        faultIs(Nets.full(), "link 10 11;", 8);
        faultIs(Nets.full(), "link 10 10 7", 8);
        faultIs(Nets.full(), "link 10 12 7", 8);
        faultIs(Nets.full(), "link 12 10 7", 5);
        faultIs(Nets.full(), "link 10", 7);
        faultIs(Nets.full(), "link 0 1 7", NONE);
        faultIs(Nets.full(), "link 1 0 7", NONE);
        faultIs(Nets.full(), "link 3 2 50;link 11 2 99", NONE);
        faultIs(Nets.full(), "level 11 2;link 10 11 7", 19);
        faultIs(Nets.full(), "net 12;link 10 11 7", NONE);
        faultIs(Nets.full(), "link 0 1 7;net 2;link 0 1 7", NONE);
    }

    /** The same, where the text itself brings the 30th. */
    private static void linkThirtyOneInTheText() {
        BunchNotes x = Nets.full();
        x.cut(0, 1);
        x.cut(0, 2);
        faultIs(x, "link 10 11 7;link 9 10 7;link 8 9 7", 32);
        faultIs(x, "link 10 11 7;link 11 10 8;link 10 11 9;link 9 10 7;link 10 9 8", NONE);
        due.is("links", x.count(1), 30);
        due.is("a later length holds", x.distance(9, 11), 17);
        faultIs(x, "link 0 1 7", 7);
        x.cut(9, 10);
        faultIs(x, "link 0 1 7;link 9 10 7", 18);
        faultIs(x, "link 0 1 7", NONE);
        due.is("links again", x.count(1), 30);
        BunchNotes y = Nets.full();
        y.keep(0);
        faultIs(y, "net 12;" + manyLinks(14), NONE);
        due.is("links anew", y.count(1), 14);
    }

    /** Links 0-1 to 0-11, 1-2 on, short enough for 200 letters. */
    private static String manyLinks(int count) {
        StringBuilder text = new StringBuilder();
        for (int i = 0; i < count; i++) {
            int u = i < 11 ? 0 : 1;
            int v = i < 11 ? i + 1 : i - 9;
            text.append(i == 0 ? "" : ";").append("link").append(u).append(' ').append(v).append(" 9");
        }
        return text.toString();
    }

    /** "A FAULT is at the first TOKEN that cannot stand there". */
    private static void firstFaultOfSeveral() {
        faultIs("net 1;net 13;x", 4);
        faultIs("net 3;net 13;x", 10);
        faultIs("net 3;net 12;x", 13);
        faultIs("link 5 5 0", 5);
        faultIs("link 0 5 0", 7);
        faultIs("level 5 5", 6);
        faultIs("net 3 x;net 1", 6);
        faultIs("net 13;level", 4);
    }

    /** "CLAUSES are done in their order." */
    private static void inTheirOrder() {
        BunchNotes x = new BunchNotes();
        faultIs(x, "level 0 1;level 0 2;link 0 1 5;link 1 0 6", NONE);
        due.is("the later level", x.level(0), 2);
        due.is("the later length", x.distance(0, 1), 6);
        due.is("one link", x.count(1), 1);
        faultIs(x, "link 0 1 9;net 3;net 5", NONE);
        due.is("the later net", x.count(0), 5);
        due.is("no links", x.count(1), 0);
        due.is("level 0 again", x.level(0), 0);
        faultIs(x, "net 12;net 4;link 3 0 5;level 3 1", NONE);
        due.is("behind a net", x.distance(0, 3), 5);
        due.is("behind a net", x.level(3), 1);
        faultIs(x, "level 3 2;link 0 1 1;net 4", NONE);
        due.is("ahead of a net", x.level(3), 0);
        due.is("ahead of a net", x.distance(0, 1), NONE);
    }

    /** "What there was stays", but for what the clause "net" names. */
    private static void whatThereWasStays() {
        BunchNotes x = Nets.of("net 5;link 0 1 5;link 1 2 6;level 3 1");
        x.draw(4711);
        int drawn = x.count(8);
        x.lift(3, 1);
        x.lift(4, 2);
        x.mend();
        faultIs(x, "link 1 2 7;link 3 4 8", NONE);
        due.is("nodes", x.count(0), 5);
        due.is("links", x.count(1), 3);
        due.is("a link that is not named", x.distance(0, 1), 5);
        due.is("level(3)", x.level(3), 1);
        due.is("level(4)", x.level(4), 2);
        due.is("notes", x.count(3), 5);
        due.is("a note bears what it bore", x.notedFar(1, 2), 6);
        due.is("DRAW", x.count(8), drawn);
        faultIs(x, "level 4 1", NONE);
        due.is("links behind a level", x.count(1), 3);
        due.is("level(3) behind a level", x.level(3), 1);
        due.is("notes behind a level", x.count(3), 5);
        faultIs(x, "net 5", NONE);
        due.is("links behind a net", x.count(1), 0);
        due.is("nodes of level 0 behind a net", x.count(9), 5);
        due.is("notes behind a net", x.count(3), 0);
        due.is("a note behind a net", x.noted(1, 7), NOT);
        due.is("DRAW behind a net", x.count(8), drawn);
    }

    /** "Behind them no act can be undone, nothing is kept." */
    private static void nothingToUndoOrKept() {
        for (String text : new String[] {"level 0 0", "link 0 1 5", "net 2"}) {
            BunchNotes x = new BunchNotes();
            for (int i = 0; i < 9; i++) {
                x.join(0, 1, 5);
            }
            x.keep(0);
            x.keep(1);
            faultIs(x, text, NONE);
            due.is("acts", x.count(6), 0);
            due.is("undo()", x.undo(), NOT);
            due.is("back(0)", x.back(0), NOT);
            due.is("back(1)", x.back(1), NOT);
            due.is("an act", x.lift(0, 1), 0);
            due.is("acts", x.count(6), 1);
            due.is("undo()", x.undo(), 0);
            due.is("keep(1)", x.keep(1), 0);
            due.is("back(0) yet", x.back(0), NOT);
            due.is("back(1)", x.back(1), 0);
        }
    }

    /** "it is empty then: how many there were". */
    private static void countOfClauses() {
        for (int many = 1; many <= 24; many++) {
            BunchNotes x = new BunchNotes();
            Nets.typeAll(x, Nets.times("net" + (many % 11 + 2), many));
            due.is("net() of " + many, x.net(), many);
            due.is("letters", x.count(7), 0);
            due.is("fault()", x.fault(), 0);
            due.is("net() again", x.net(), NOT);
            due.is("nodes", x.count(0), many % 11 + 2);
        }
    }

    /** "NOT: it has a FAULT": no clause is done, and the text can be gone on with. */
    private static void refusedText() {
        BunchNotes x = new BunchNotes();
        x.join(0, 1, 8);
        x.keep(1);
        Nets.typeAll(x, "net 7;link 0 6 4;level 6");
        due.is("net()", x.net(), NOT);
        due.is("nodes", x.count(0), 2);
        due.is("links", x.count(1), 1);
        due.is("acts", x.count(6), 1);
        due.is("letters", x.count(7), 24);
        due.is("level(6)", x.level(6), UNKNOWN);
        due.is("kept", x.back(1), 0);
        Nets.typeAll(x, " 2");
        due.is("net() of the rest", x.net(), 3);
        due.is("nodes then", x.count(0), 7);
        due.is("level(6) then", x.level(6), 2);
    }
}
