import java.lang.management.ManagementFactory;

/** What a new object and its dearest calls make must stay far under the one room of 7.3 million fields and elements. */
public final class RoomTest {
    private static final long MOST_BYTES = 600_000;

    private static long made() {
        com.sun.management.ThreadMXBean bean = (com.sun.management.ThreadMXBean) ManagementFactory.getThreadMXBean();
        return bean.getThreadAllocatedBytes(Thread.currentThread().getId());
    }

    /** A text that is as dear as the room for TOKENS lets it be. */
    private static String dearText() {
        StringBuilder text = new StringBuilder("set p=1;set q=2;set r=3;kind a has x=5;has y=3;has z=1;");
        for (int rule = 0; rule < 7; rule++) {
            text.append("rule if lot 9==9 or sum a x<q and not here==p add x sum a y-lot 9*r;");
            text.append("give x lot 9/2 to pick a;go lot 3;give y 1 to near a;add y sum a z/(p-q)+all a;end ");
        }
        return text.append("end").toString();
    }

    private static MadeTown dearTown() {
        MadeTown town = Due.town(dearText());
        for (int i = 0; i < 20; i++) {
            town.one(0, i % 3, 1 + i);
        }
        town.order(true);
        town.seen(40, 0, 0, Integer.MIN_VALUE, Integer.MAX_VALUE);
        town.span(0, 0, 9, 1);
        town.span(1, 0, 9, 1);
        town.span(2, 0, 1, 1);
        for (int i = 0; i < 4; i++) {
            town.cause(i % 3, i);
        }
        return town;
    }

    /** Nothing more than is made anyway (for the exception of setting alone) may be made by a call. */
    private static void askAll(MadeTown town, int n) {
        for (int i = 0; i < n; i++) {
            town.state(i, 40, 3, 0);
            town.at(i, 40, 3);
            town.figure(i, 40, 0, 0);
            town.wishes(i, 39, 3);
            town.changed(i, 40, 3, 2);
            town.first(i, 40, 3, 2, 4);
            town.share(0, i, 40, 0, 0);
            town.tells(3, 105, 22);
            town.fewest(3, 22);
            town.count(6);
        }
    }

    public static void main(String[] args) {
        Due due = new Due();
        dearTown();
        long before = made();
        MadeTown town = dearTown();
        long object = made() - before;
        due.is("bytes of an object with its text: " + object, object < MOST_BYTES, true);

        askAll(town, 2);
        before = made();
        askAll(town, 40);
        due.is("bytes that the calls about runs made", made() - before < 1000, true);

        // The first reading of the clock's own classes may make some; the text itself is made by the test.
        String text = dearText();
        before = made();
        for (int i = 0; i < 20; i++) {
            due.is("read", Due.read(town, text), 0);
        }
        long reads = made() - before;
        due.is("bytes that 20 reads made with the test's own feeding: " + reads, reads < 400_000, true);

        town = dearTown();
        due.is("the whole grid meets", town.meets(3), 200);
        before = made();
        town.would(3, 0, 5, 40, 0, 0, 2);
        town.begin(0, 0, 7);
        town.meets(3);
        town.met(3, 150, 1);
        town.untold(3);
        due.is("bytes that the grid made", made() - before < 1000, true);
        due.end();
    }
}
