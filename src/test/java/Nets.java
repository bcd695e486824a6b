/** Objects to begin a test with; each leaves most of its 512 calls to the test. */
final class Nets {
    /** A ring of six, all lengths 4, a chord 0-3 of 9; 2 has level 1, 4 has level 2. */
    static final String RING = "net 6;link 0 1 4;link 1 2 4;link 2 3 4;link 3 4 4;"
            + "link 4 5 4;link 5 0 4;link 0 3 9;level 2 1;level 4 2";

    private Nets() {
    }

    static void typeAll(BunchNotes x, String text) {
        for (int i = 0; i < text.length(); i++) {
            x.type(text.charAt(i));
        }
    }

    static BunchNotes of(String text) {
        BunchNotes x = new BunchNotes();
        typeAll(x, text);
        if (x.net() <= 0) {
            throw new IllegalStateException("a test's own net cannot be read: " + text);
        }
        return x;
    }

    /** Made by the text RING, of which each act is a clause. */
    static BunchNotes ring() {
        return of(RING);
    }

    /** Twelve nodes and the 30 links of the lowest numbers that there can be, each of length 50. */
    static BunchNotes full() {
        BunchNotes x = of("net 12");
        int links = 0;
        for (int u = 0; u < 12; u++) {
            for (int v = u + 1; v < 12 && links < 30; v++) {
                links++;
                x.join(u, v, 50);
            }
        }
        return x;
    }

    /** Nodes in a row, each linked to the next by the length that is given for it. */
    static BunchNotes row(int... lengths) {
        BunchNotes x = of("net " + (lengths.length + 1));
        for (int v = 0; v < lengths.length; v++) {
            x.join(v, v + 1, lengths[v]);
        }
        return x;
    }

    static int set(int... nodes) {
        int bits = 0;
        for (int node : nodes) {
            bits |= 1 << node;
        }
        return bits;
    }

    /** So many clauses of one form, with ; between. */
    static String times(String clause, int count) {
        StringBuilder all = new StringBuilder();
        for (int i = 0; i < count; i++) {
            all.append(i == 0 ? "" : ";").append(clause);
        }
        return all.toString();
    }
}
