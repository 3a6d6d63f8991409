/** Promises 6 to 11 and 29: SETTINGS, ONES, LOTS, THE ORDER, counts. */
public final class TownTest {
    private static final Due DUE = new Due();
    private static final int MIN = Integer.MIN_VALUE;
    private static final int MAX = Integer.MAX_VALUE;

    public static void main(String[] args) {
        settings();
        ones();
        begins();
        lots();
        order();
        counts();
        DUE.end();
    }

    private static void settings() {
        MadeTown t = Due.town("set a = 1; set b = 20; kind k has x = 0; rule add x a * 100 + b; end end");
        DUE.is("setting 0", t.setting(0), 1);
        DUE.is("setting 1", t.setting(1), 20);
        DUE.throwsNone("setting 2", t, 2);
        DUE.throwsNone("setting -1", t, -1);
        DUE.throwsNone("setting min", t, MIN);
        DUE.throwsNone("setting max", t, MAX);
        DUE.is("set 0 9999", t.set(0, 9999), true);
        DUE.is("set 0 10000", t.set(0, 10000), false);
        DUE.is("setting 0", t.setting(0), 9999);
        DUE.is("set 0 -9999", t.set(0, -9999), true);
        DUE.is("set 0 -10000", t.set(0, -10000), false);
        DUE.is("set 2", t.set(2, 0), false);
        DUE.is("set -1", t.set(-1, 0), false);
        DUE.is("setting 0", t.setting(0), -9999);
        DUE.is("setting 1", t.setting(1), 20);
        t.set(0, 3);
        t.one(0, 0, 1);
        DUE.is("a RUN has SETTINGS as they are now", t.state(0, 1, 0, 0), 320);
        t.set(0, 4);
        DUE.is("and now", t.state(0, 1, 0, 0), 420);
    }

    private static void ones() {
        MadeTown t = Due.town("kind a has x = 1; end kind b has x = 2; has y = -3; end");
        int[][] none = {{-1, 0, 1}, {2, 0, 1}, {MAX, 0, 1}, {MIN, 0, 1}, {0, -1, 1}, {0, 10, 1}, {0, 0, 0}, {0, 0, -1},
            {0, 0, 100}, {0, MAX, 1}, {0, 0, MAX}};
        for (int[] n : none) {
            DUE.is("one " + n[0] + " " + n[1] + " " + n[2], t.one(n[0], n[1], n[2]), -1);
        }
        DUE.is("nothing happened", t.count(2), 0);
        DUE.is("one", t.one(1, 9, 99), 0);
        DUE.is("one", t.one(0, 0, 1), 1);
        DUE.is("y of 0", t.state(0, 0, 0, 1), -3);
        DUE.is("place of 0", t.at(0, 0, 0), 9);
        DUE.is("copies of 0", t.figure(0, 0, 1, 0), 198);
        for (int i = 2; i < 20; i++) {
            DUE.is("one " + i, t.one(i % 2, i % 10, i), i);
        }
        DUE.is("a 21st", t.one(0, 0, 1), -1);
        DUE.is("count 2", t.count(2), 20);
        DUE.is("place of 19", t.at(0, 0, 19), 9);
    }

    private static void begins() {
        MadeTown t = Due.town("kind a has x = 1; has y = 2; rule add x 1; end end kind b end");
        t.one(0, 0, 1);
        t.one(1, 0, 1);
        t.one(0, 0, 1);
        DUE.is("begin", t.begin(0, 1, 9999), true);
        DUE.is("begin 10000", t.begin(0, 1, 10000), false);
        DUE.is("begin -9999", t.begin(2, 0, -9999), true);
        DUE.is("begin -10000", t.begin(2, 0, -10000), false);
        DUE.is("begin of no VAR", t.begin(0, 2, 0), false);
        DUE.is("begin of VAR -1", t.begin(0, -1, 0), false);
        DUE.is("begin of one -1", t.begin(-1, 0, 0), false);
        DUE.is("begin of one 3", t.begin(3, 0, 0), false);
        DUE.is("begin of a KIND without VARS", t.begin(1, 0, 0), false);
        DUE.is("state 0 0", t.state(0, 0, 0, 0), 1);
        DUE.is("state 0 1", t.state(0, 0, 0, 1), 9999);
        DUE.is("state 2 0", t.state(0, 0, 2, 0), -9999);
        DUE.is("state 2 1", t.state(0, 0, 2, 1), 2);
        DUE.is("state 2 0 behind 2", t.state(0, 2, 2, 0), -9997);
        t.begin(0, 0, 50);
        DUE.is("begins anew", t.state(0, 3, 0, 0), 53);
    }

    /** By hand: h = 0, 0 ^ 0 times .. is 12345; 12345 ^ (12345 >>> 15) is 12345, and so on with wraps. */
    private static int byWords(int seed, int one, int tick, int which, int n) {
        int h = seed;
        h = (h ^ one) * 1103515245 + 12345;
        h = h ^ h >>> 15;
        h = (h ^ tick) * 1103515245 + 12345;
        h = h ^ h >>> 15;
        h = (h ^ which) * 1103515245 + 12345;
        h = h ^ h >>> 15;
        return (h >>> 1) % n;
    }

    private static void lots() {
        MadeTown t = new MadeTown();
        DUE.is("lot of a WORLD without ONES", t.lot(5, 0, 0, 0, 10), 9);
        DUE.is("lot", t.lot(-1, 19, 39, 1000, 9999), 914);
        int[] seeds = {0, 1, -1, 12345, MIN, MAX};
        for (int seed : seeds) {
            for (int one = 0; one < 20; one += 6) {
                for (int tick = 0; tick < 40; tick += 13) {
                    DUE.is("lot", t.lot(seed, one, tick, one + tick, 9999), byWords(seed, one, tick, one + tick, 9999));
                }
            }
        }
        int[][] none = {{-1, 0, 0, 1}, {20, 0, 0, 1}, {0, -1, 0, 1}, {0, 40, 0, 1}, {0, 0, -1, 1}, {0, 0, 1001, 1},
            {0, 0, 0, 0}, {0, 0, 0, -1}, {0, 0, 0, 10000}, {MIN, 0, 0, 1}, {0, MAX, 0, 1}, {0, 0, MIN, 1}, {0, 0, 0, MIN}};
        for (int[] n : none) {
            DUE.is("lot " + n[0] + " " + n[1] + " " + n[2] + " " + n[3], t.lot(7, n[0], n[1], n[2], n[3]), -1);
        }
        DUE.is("lot 1", t.lot(7, 19, 39, 1000, 1), 0);
    }

    /** Whoever comes first takes what there is: give moves what the giver has now. */
    private static void order() {
        MadeTown t = Due.giveAndTake(new MadeTown());
        DUE.is("by numbers", t.state(0, 1, 0, 0), 4);
        t.order(true);
        int firsts = 0;
        for (int seed = 0; seed < 40; seed++) {
            boolean zeroFirst = t.lot(seed, 0, 0, 1000, 1000) <= t.lot(seed, 1, 0, 1000, 1000);
            firsts += zeroFirst ? 1 : 0;
            DUE.is("dealt, seed " + seed, t.state(seed, 1, 0, 0), zeroFirst ? 4 : 0);
        }
        DUE.is("both orders are dealt", firsts > 0 && firsts < 40, true);
        // THE ORDER stays as it is when another text is read.
        Due.giveAndTake(t);
        int seed = Due.seedOfOneFirst(t);
        DUE.is("dealt still", t.state(seed, 1, 0, 0), 0);
        t.order(false);
        DUE.is("by numbers again", t.state(seed, 1, 0, 0), 4);
        alikeLots(t);
    }

    private static void alikeLots(MadeTown t) {
        t.order(true);
        int seed = 0;
        while (t.lot(seed, 0, 0, 1000, 1000) != t.lot(seed, 1, 0, 1000, 1000)) {
            seed++;
        }
        DUE.is("of alike ones the least number, seed " + seed, t.state(seed, 1, 0, 0), 4);
    }

    private static void counts() {
        MadeTown t = Due.town("set a = 1; set b = 2; set c = 3; kind k has x = 1; rule end rule end end kind l end "
                + "kind m secret y = 1; has z = 1; rule end end");
        t.one(0, 0, 1);
        t.one(0, 0, 1);
        t.cause(0, 1);
        t.seen(0, 0, 0, 0, 0);
        t.seen(0, 0, 0, 0, 0);
        t.span(0, 0, 1, 1);
        t.feed(0, 0, 0, 0, 0);
        int[] due = {3, 3, 2, 1, 2, 1, 20, -1, -1, -1, 1, 0, 2, -1, -1, -1, -1, -1, -1, -1, 2, 0, 1, -1, -1, -1, -1};
        for (int what = 0; what < due.length; what++) {
            DUE.is("count " + what, t.count(what), due[what]);
        }
        DUE.is("count -1", t.count(-1), -1);
        DUE.is("count min", t.count(MIN), -1);
        DUE.is("count max", t.count(MAX), -1);
    }
}
