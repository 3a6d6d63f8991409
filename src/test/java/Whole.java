import java.util.NoSuchElementException;

/**
 * Towns in which something of everything is told, and all that such a town answers as one text: by that text it is seen
 * whether a refused call has left everything as it was. No town is asked more than the document's 512 calls.
 */
final class Whole {
    static final String TEXT = "set a = 3; set b = 5; set c = 7; "
            + "kind k has x = 10; secret y = -4; rule add x a + lot 5; give x 2 to near l; end "
            + "rule if 2 < tick add y b; go 1; end end "
            + "kind l has x = 1; rule add x c / 7; end rule if 9 < x give x b to pick k; end "
            + "rule if tick == 3 and lot 2 == 0 quit; end end kind m end";
    private static final String NEXT = "set q = 77; kind z end";
    private static final long THROWN = Long.MIN_VALUE;

    private Whole() {
    }

    /** Some of everything, with room for more; the latest read had a FAULT, and the next text waits on the tape. */
    static MadeTown town() {
        MadeTown t = begun();
        t.seen(3, 0, 0, 85, 135);
        return t;
    }

    private static MadeTown begun() {
        MadeTown t = Due.town(TEXT);
        t.one(0, 4, 1);
        t.one(1, 4, 2);
        t.one(0, 4, 3);
        t.one(1, 5, 1);
        t.one(2, 4, 7);
        t.begin(2, 0, 20);
        t.set(1, 6);
        t.order(true);
        t.cause(0, 9);
        t.cause(1, -2);
        t.span(0, 0, 4, 2);
        t.span(2, 7, 14, 7);
        Due.read(t, "kind kind");
        Due.feed(t, NEXT);
        return t;
    }

    /** As much of everything as there can be: 20 ONES, 4 CAUSES, 8 SEEN, 3 SPANS, 2,000 bytes. */
    static MadeTown full() {
        MadeTown t = begun();
        for (int i = 5; i < 20; i++) {
            t.one(i % 3, i % 10, 1 + i);
        }
        t.cause(2, 0);
        t.cause(0, -5);
        t.seen(3, 0, 0, 960, 1800);
        for (int i = 1; i < 8; i++) {
            t.seen(i, 1, 0, -1000 * i, 5000 * i);
        }
        t.span(1, 6, 7, 1);
        t.back(t.count(6));
        for (int i = 0; i < 98; i++) {
            t.feed(0x20202020, 0x20202020, 0x20202020, 0x20202020, 0x20202020);
        }
        Due.feed(t, NEXT + " ".repeat(40 - NEXT.length()));
        return t;
    }

    static long setting(MadeTown t, int k) {
        try {
            return t.setting(k);
        } catch (NoSuchElementException e) {
            return THROWN;
        }
    }

    /** What the town answers, the tape's bytes last of all, as only a read tells them. */
    static String told(MadeTown t) {
        StringBuilder all = new StringBuilder("place ").append(t.place());
        all.append(toldWithoutTape(t));
        all.append(" read ").append(t.read()).append(' ').append(t.place()).append(' ').append(setting(t, 0));
        for (int what = 0; what <= 6; what++) {
            all.append(' ').append(t.count(what));
        }
        return all.toString();
    }

    static String toldWithoutTape(MadeTown t) {
        StringBuilder all = new StringBuilder(" counts");
        for (int what = 0; what <= 24; what++) {
            all.append(' ').append(what == 6 ? 0 : t.count(what));
        }
        all.append(" settings");
        for (int k = 0; k <= t.count(0); k++) {
            all.append(' ').append(setting(t, k));
        }
        int apart = t.count(2) > 5 ? 4 : 1;
        for (int i = 0; i < t.count(2); i += apart) {
            all.append("\n one ").append(i);
            for (int seed = 0; seed < 2; seed++) {
                all.append(' ').append(t.state(seed, 0, i, 0)).append(' ').append(t.state(seed, 0, i, 1));
                all.append(' ').append(t.state(seed, 5, i, 0)).append(' ').append(t.state(seed, 5, i, 1));
                all.append(' ').append(t.at(seed, 0, i)).append(' ').append(t.at(seed, 5, i));
                all.append(' ').append(t.wishes(seed, 3, i));
            }
            all.append(' ').append(t.changed(0, 5, i, 2)).append(' ').append(t.first(0, 5, 0, 2, i));
        }
        all.append("\n figures");
        for (int kind = 0; kind < t.count(1); kind++) {
            all.append(' ').append(t.figure(0, 0, kind, 0)).append(' ').append(t.figure(1, 5, kind, 0));
        }
        all.append(" shares");
        for (int cause = 0; cause <= t.count(3); cause++) {
            all.append(' ').append(t.share(cause, 0, 4, 0, 0));
        }
        return all.append(toldOfGrid(t)).toString();
    }

    private static String toldOfGrid(MadeTown t) {
        StringBuilder all = new StringBuilder("\n grid ").append(t.meets(1)).append(' ').append(t.untold(2));
        int meeting = t.meets(2);
        all.append(' ').append(meeting);
        for (int i = 0; i <= Math.min(meeting, 12); i++) {
            all.append(" point");
            for (int span = 0; span <= t.count(5); span++) {
                all.append(' ').append(t.met(2, i, span));
            }
        }
        for (int what = 0; what < 3; what++) {
            all.append(" would ").append(t.would(2, 1, 9, 4, 0, 0, what));
        }
        return all.toString();
    }
}
