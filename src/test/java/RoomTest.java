import java.lang.management.ManagementFactory;

/** Calls make no objects: what a run makes is what its constructors make. */
public final class RoomTest {
    private static final int ROUNDS = 2000;
    /** Room for what the machine itself makes meanwhile; one int array a round would be far more. */
    private static final long SLACK = 8000;

    private static final Due due = new Due();

    private RoomTest() {
    }

    public static void main(String[] args) {
        BunchNotes x = new BunchNotes();
        long sum = round(x, 1);
        long before = made();
        for (int i = 0; i < ROUNDS; i++) {
            sum += round(x, i);
        }
        long used = made() - before;
        due.holds("calls made " + used + " bytes of objects (" + sum + ")", used < SLACK);
        before = made();
        x = new BunchNotes();
        used = made() - before;
        due.holds("a constructor made " + used + " bytes", used < 40000 && x.count(0) == 2);
        due.end();
    }

    private static long made() {
        return ((com.sun.management.ThreadMXBean) ManagementFactory.getThreadMXBean())
                .getThreadAllocatedBytes(Thread.currentThread().getId());
    }

    /** Every call of the face at least once. */
    private static long round(BunchNotes x, int i) {
        String text = "net 9;link 0 1 5;link 1 2 4;link 2 8 1;level 1 2;level 2 1";
        long sum = x.erase();
        for (int at = 0; at < text.length(); at++) {
            sum += x.type(text.charAt(at));
        }
        sum += x.fault() + x.net() + x.link(0, 2) + x.level(1);
        for (int v = 3; v < 9; v++) {
            sum += x.join(v, i % v, 1 + i % 99);
        }
        sum += x.keep(i % 2) + x.cut(0, 1) + x.lift(3, 2) + x.draw(i) + x.undo() + x.mend() + x.thin(3);
        sum += x.note(4) + x.tear(5) + x.distance(1, 7) + x.nearest(3, 1, 0) + x.bunch(2, 0) + x.bunch(2, 1);
        sum += x.next(0, 8) + x.thinned(2, -1) + x.worst(2, 0) + x.noted(4, 0) + x.notedFar(4, 1);
        sum += x.told(4, 6, 0) + x.why(4, 5, 0) + x.route(4, 6, 2) + x.pairs(0) + x.back(i % 2);
        for (int what = 0; what < 12; what++) {
            sum += x.count(what);
        }
        return sum;
    }
}
