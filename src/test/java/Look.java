import java.util.ArrayList;
import java.util.List;

/** What can be seen of one side of an object, as a row of answers. */
enum Look {
    /** Nodes, links, levels, DRAW. */
    NET,
    /** What the notes bear; whether they are fresh hangs on the net too, so that is left out. */
    NOTES,
    /** How many acts can be undone, and what the net is behind each undo(). */
    PAST,
    /** What back(0) brings. */
    KEPT_0,
    /** What back(1) brings. */
    KEPT_1,
    /** The letters: where they fail, how they go on, and what they do. */
    TEXT;

    /** Looks may change the object: take each of another one, made in the same way. */
    List<Integer> at(BunchNotes x) {
        List<Integer> seen = new ArrayList<>();
        switch (this) {
            case NET:
                net(x, seen);
                break;
            case NOTES:
                notes(x, seen);
                break;
            case PAST:
                past(x, seen);
                break;
            case KEPT_0:
            case KEPT_1:
                kept(x, this == KEPT_0 ? 0 : 1, seen);
                break;
            default:
                text(x, seen);
                break;
        }
        return seen;
    }

    private static void net(BunchNotes x, List<Integer> seen) {
        seen.add(x.count(8));
        nodesAndLinks(x, seen);
    }

    private static void nodesAndLinks(BunchNotes x, List<Integer> seen) {
        int nodes = x.count(0);
        int links = x.count(1);
        seen.add(nodes);
        seen.add(links);
        for (int v = 0; v < nodes; v++) {
            seen.add(x.level(v));
        }
        for (int link = 0; link < links; link++) {
            seen.add(x.link(link, 0));
            seen.add(x.link(link, 1));
            seen.add(x.link(link, 2));
        }
    }

    private static void kept(BunchNotes x, int k, List<Integer> seen) {
        int answer = x.back(k);
        seen.add(answer);
        if (answer >= 0) {
            seen.add(x.count(6));
            net(x, seen);
            notes(x, seen);
        }
    }

    /** The distances in a note are asked for those of its bunch alone, to save calls. */
    private static void notes(BunchNotes x, List<Integer> seen) {
        int nodes = x.count(0);
        seen.add(x.count(3));
        seen.add(x.count(5));
        for (int v = 0; v < nodes; v++) {
            int bunch = x.noted(v, 7);
            seen.add(bunch);
            for (int what = 1; what < 7 && bunch >= 0; what++) {
                seen.add(x.noted(v, what));
            }
            for (int w = 0; w < nodes && bunch >= 0; w++) {
                if ((bunch >> w & 1) != 0) {
                    seen.add(x.notedFar(v, w));
                }
            }
        }
    }

    private static void past(BunchNotes x, List<Integer> seen) {
        int nodes = x.count(0);
        seen.add(x.count(6));
        for (int undone = 0; undone < 9; undone++) {
            seen.add(x.undo());
            int links = x.count(1);
            seen.add(links);
            seen.add(x.count(8));
            for (int v = 0; v < nodes; v++) {
                seen.add(x.level(v));
            }
            for (int link = 0; link < links; link++) {
                seen.add(x.link(link, 2));
            }
        }
    }

    private static void text(BunchNotes x, List<Integer> seen) {
        seen.add(x.count(7));
        seen.add(x.fault());
        for (char letter : " 1 2".toCharArray()) {
            seen.add(x.type(letter));
        }
        seen.add(x.fault());
        int clauses = x.net();
        seen.add(clauses);
        seen.add(x.count(7));
        if (clauses >= 0) {
            nodesAndLinks(x, seen);
        }
    }
}
