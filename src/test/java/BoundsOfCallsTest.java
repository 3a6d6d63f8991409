import java.util.function.ToLongFunction;

/**
 * Promises 1 to 29, one by one: each call at its bounds, one below and one above them, and far off; a call that is
 * refused must leave all as it was.
 */
public final class BoundsOfCallsTest {
    private static final Due DUE = new Due();
    private static final int MIN = Integer.MIN_VALUE;
    private static final int MAX = Integer.MAX_VALUE;
    private static final int BLANKS = 0x20202020;
    private static final int NO_VAR = -1000000;
    private static final int NO_FIGURE = -1000000000;
    private static final long NO_SHARE = -1000000000000L;
    // Whole.town() has three SETTINGS, the KINDS k (VARS x, y), l (x), m (none), and five ONES: k, l, k, l, m.
    private static final int[] NO_SETTINGS = {-1, 3, 4, MIN, MAX};
    private static final int[] NO_KINDS = {-1, 3, 4, MIN, MAX};
    private static final int[] NO_ONES = {-1, 5, 6, 19, 20, 31, 32, MIN, MAX};
    private static final int[] NO_NUMBERS = {-10000, 10000, -10001, MIN, MAX};
    private static final int[] NO_TIMES = {-1, 41, 42, MIN, MAX};
    private static final int[] NO_TICKS = {-1, 40, 41, MIN, MAX};
    private static final int[] NO_SEEDS = {0, 4, -1, 5, MIN, MAX};

    public static void main(String[] args) {
        newObject();
        feed();
        back();
        readAndPlace();
        set();
        setting();
        one();
        begin();
        order();
        lot();
        state();
        at();
        figure();
        wishes();
        changed();
        first();
        cause();
        clear();
        share();
        seen();
        span();
        meets();
        met();
        untold();
        would();
        tells();
        fewest();
        count();
        DUE.end();
    }

    private static void refused(String call, ToLongFunction<MadeTown> asked, long want) {
        DUE.refused(call, Whole::town, asked, want);
    }

    private static void fullRefused(String call, ToLongFunction<MadeTown> asked, long want) {
        DUE.refused("of a full one: " + call, Whole::full, asked, want);
    }

    private static long truth(boolean answer) {
        return answer ? 1 : 0;
    }

    /** Promise 1: "No WORLD: no SETTINGS, KINDS; THE ORDER is by numbers." */
    private static void newObject() {
        MadeTown t = new MadeTown();
        for (int what = -2; what <= 30; what++) {
            DUE.is("new: count " + what, t.count(what), what >= 0 && what <= 6 ? 0 : -1);
        }
        DUE.is("new: place", t.place(), -1);
        DUE.is("new: setting 0 throws", Whole.setting(t, 0), Long.MIN_VALUE);
        DUE.is("new: set", t.set(0, 0), false);
        DUE.is("new: one", t.one(0, 0, 1), -1);
        DUE.is("new: begin", t.begin(0, 0, 0), false);
        DUE.is("new: lot", t.lot(5, 0, 0, 0, 10), 9);
        DUE.is("new: state", t.state(0, 0, 0, 0), NO_VAR);
        DUE.is("new: at", t.at(0, 0, 0), -1);
        DUE.is("new: figure", t.figure(0, 0, 0, 0), NO_FIGURE);
        DUE.is("new: wishes", t.wishes(0, 0, 0), -1);
        DUE.is("new: changed", t.changed(0, 1, 0, 0), -1);
        DUE.is("new: first", t.first(0, 1, 0, 0, 0), -1);
        DUE.is("new: cause", t.cause(0, 0), -1);
        DUE.is("new: clear", t.clear(), 0);
        DUE.is("new: share", t.share(0, 0, 0, 0, 0), NO_SHARE);
        DUE.is("new: seen", t.seen(0, 0, 0, 0, 0), -1);
        DUE.is("new: span", t.span(0, 0, 0, 1), -1);
        for (int s = 0; s <= 4; s++) {
            boolean such = s >= 1 && s <= 3;
            DUE.is("new: meets " + s, t.meets(s), such ? 1 : -1);
            DUE.is("new: untold " + s, t.untold(s), such ? 0 : -1);
            DUE.is("new: met " + s, t.met(s, 0, 0), NO_VAR);
            DUE.is("new: would " + s, t.would(s, 0, 0, 0, 0, 0, 0), NO_FIGURE);
        }
        DUE.is("new: tells", t.tells(1, 3, 2), 1);
        DUE.is("new: fewest", t.fewest(1, 2), 3);
        DUE.is("new: back 0", t.back(0), 0);
        DUE.is("new: back 1", t.back(1), -1);
        DUE.is("new: read of nothing", t.read(), 0);
        DUE.is("new: place behind it", t.place(), -1);
        // Dealt, some of these SEEDS would have it the other way round.
        Due.giveAndTake(t);
        for (int seed = 0; seed < 20; seed++) {
            DUE.is("new: THE ORDER is by numbers", t.state(seed, 1, 0, 0), 4);
        }
    }

    private static MadeTown ofBytes(int bytes) {
        MadeTown t = new MadeTown();
        while (t.count(6) < bytes) {
            t.feed(BLANKS, BLANKS, BLANKS, BLANKS, BLANKS);
        }
        t.back(t.count(6) - bytes);
        return t;
    }

    /** Promise 2: "NONE, and nothing comes, if it would have more than 2,000." */
    private static void feed() {
        for (int bytes : new int[] {0, 1, 20, 1000, 1979, 1980}) {
            MadeTown t = ofBytes(bytes);
            DUE.is("bytes", t.count(6), bytes);
            DUE.is("feed behind " + bytes, t.feed(BLANKS, BLANKS, BLANKS, BLANKS, BLANKS), bytes + 20);
            DUE.is("count behind it", t.count(6), bytes + 20);
            DUE.is("the text is good", t.read(), 0);
        }
        for (int bytes : new int[] {1981, 1982, 1999, 2000}) {
            MadeTown t = ofBytes(bytes);
            DUE.is("feed behind " + bytes, t.feed(0, 0, 0, 0, 0), -1);
            DUE.is("feed once more behind " + bytes, t.feed(-1, -1, -1, -1, -1), -1);
            DUE.is("nothing comes", t.count(6), bytes);
            DUE.is("no byte of it", t.read(), 0);
        }
        fullRefused("feed", t -> t.feed(0x73657420, 0, -1, MIN, MAX), -1);
        DUE.refused("feed behind 1981", () -> backed(Whole.full(), 19), t -> t.feed(0, 0, 0, 0, 0), -1);
        // "Twenty bytes, the highest of a first": which byte of which number is the wrong one is told by its place.
        for (int place = 0; place < 20; place++) {
            for (int wrong : new int[] {0, 127, 128, 255}) {
                int[] five = {BLANKS, BLANKS, BLANKS, BLANKS, BLANKS};
                int moved = 24 - 8 * (place % 4);
                five[place / 4] = BLANKS & ~(255 << moved) | wrong << moved;
                MadeTown t = new MadeTown();
                t.feed(five[0], five[1], five[2], five[3], five[4]);
                DUE.is("a byte of " + wrong, t.read(), 1);
                DUE.is("its place", t.place(), place);
            }
        }
    }

    private static MadeTown backed(MadeTown t, int n) {
        t.back(n);
        return t;
    }

    /** Promise 3: "NONE, and nothing goes, if it has not so many, or n is below 0." */
    private static void back() {
        for (int bytes : new int[] {0, 1, 20, 1999, 2000}) {
            int[] told = {0, 1, bytes - 1, bytes, bytes + 1, bytes + 2, 2000, 2001, -1, -2, -bytes, MIN, MAX};
            for (int n : told) {
                MadeTown t = ofBytes(bytes);
                boolean good = n >= 0 && n <= bytes;
                DUE.is("back " + n + " of " + bytes, t.back(n), good ? bytes - n : -1);
                DUE.is("bytes behind it", t.count(6), good ? bytes - n : bytes);
            }
        }
        refused("back -1", t -> t.back(-1), -1);
        refused("back min", t -> t.back(MIN), -1);
        refused("back of one more than there are", t -> t.back(t.count(6) + 1), -1);
        refused("back max", t -> t.back(MAX), -1);
        fullRefused("back 2001", t -> t.back(2001), -1);
        // "The last n bytes": those ahead of them stay.
        MadeTown t = new MadeTown();
        Due.feed(t, "set a = 1;set b = 2!");
        DUE.is("back 0", t.back(0), 20);
        DUE.is("back 1", t.back(1), 19);
        DUE.is("without the last byte", t.read(), 1);
        DUE.is("the end", t.place(), 19);
        Due.feed(t, "set a = 1;set b = 2!");
        DUE.is("back 10", t.back(10), 10);
        DUE.is("the first ten stay", t.read(), 0);
        DUE.is("setting a", t.setting(0), 1);
        DUE.is("no b", t.count(0), 1);
        Due.feed(t, "set a = 1;set b = 2!");
        DUE.is("back of all", t.back(20), 0);
        DUE.is("nothing stays", t.read(), 0);
        DUE.is("no a", t.count(0), 0);
    }

    /** Promises 4 and 5: "0, or the number of its FAULT"; "the latest read()'s FAULT; NONE without." */
    private static void readAndPlace() {
        MadeTown t = new MadeTown();
        DUE.is("place ahead of any read", t.place(), -1);
        DUE.is("a FAULT at byte 0", Due.read(t, "!"), 1);
        DUE.is("place 0 is not NONE", t.place(), 0);
        DUE.is("the tape is empty behind a FAULT", t.count(6), 0);
        Due.feed(t, "kind");
        DUE.is("place is that of the latest read still", t.place(), 0);
        DUE.is("a FAULT at the end", t.read(), 1);
        DUE.is("its length", t.place(), 4);
        DUE.is("without", Due.read(t, "kind k end"), 0);
        DUE.is("NONE without", t.place(), -1);
        DUE.is("the tape is empty without", t.count(6), 0);
        DUE.is("a FAULT of another number", Due.read(t, "kind k end kind k end"), 3);
        DUE.is("its place", t.place(), 16);
        DUE.is("read of the empty tape", t.read(), 0);
        DUE.is("place then", t.place(), -1);
    }

    /** Promise 6: "A SETTING becomes v (-9999 .. 9999): true; false for others." */
    private static void set() {
        for (int k = 0; k < 3; k++) {
            for (int v : new int[] {-9999, -9998, -1, 0, 1, 9998, 9999}) {
                MadeTown t = Whole.town();
                DUE.is("set " + k + " " + v, t.set(k, v), true);
                for (int other = 0; other < 3; other++) {
                    int begun = other == 0 ? 3 : other == 1 ? 6 : 7;
                    DUE.is("setting " + other, t.setting(other), other == k ? v : begun);
                }
            }
            for (int v : NO_NUMBERS) {
                int setting = k;
                refused("set " + k + " " + v, t -> truth(t.set(setting, v)), 0);
            }
        }
        for (int k : NO_SETTINGS) {
            refused("set of SETTING " + k, t -> truth(t.set(k, 1)), 0);
        }
        refused("set of none, with no number", t -> truth(t.set(3, 10000)), 0);
        MadeTown six = Due.town("set a = 0; set b = 0; set c = 0; set d = 0; set e = 0; set f = 0;");
        DUE.is("the sixth SETTING", six.set(5, 8), true);
        DUE.is("is set", six.setting(5), 8);
        DUE.is("there is no seventh", six.set(6, 8), false);
    }

    /** Promise 7: "it throws if there is none such." */
    private static void setting() {
        for (int k : NO_SETTINGS) {
            DUE.throwsNone("setting " + k, Whole.town(), k);
            refused("setting " + k, t -> Whole.setting(t, k), Long.MIN_VALUE);
        }
        DUE.throwsNone("setting 0 without any", Due.town("kind k end"), 0);
        MadeTown t = Due.town("set a = 0; set b = 0; set c = 0; set d = 0; set e = 0; set f = 9;");
        DUE.is("the sixth", t.setting(5), 9);
        DUE.throwsNone("the seventh", t, 6);
        DUE.is("the sixth still", t.setting(5), 9);
        Due.read(t, "set a = 4;");
        DUE.is("the first of another WORLD", t.setting(0), 4);
        DUE.throwsNone("the second of another WORLD", t, 1);
        DUE.throwsNone("the sixth of another WORLD", t, 5);
    }

    /** Promise 8: "NONE, and nothing happens: 20 are there, no such KIND, PLACE, COPIES." */
    private static void one() {
        for (int kind : NO_KINDS) {
            refused("one of KIND " + kind, t -> t.one(kind, 0, 1), -1);
        }
        for (int place : new int[] {-1, 10, 11, MIN, MAX}) {
            refused("one at PLACE " + place, t -> t.one(0, place, 1), -1);
        }
        for (int copies : new int[] {0, -1, 100, 101, MIN, MAX}) {
            refused("one of COPIES " + copies, t -> t.one(0, 0, copies), -1);
        }
        fullRefused("a 21st one", t -> t.one(0, 0, 1), -1);
        fullRefused("a 21st one of no KIND", t -> t.one(3, 0, 1), -1);
        for (int kind = 0; kind < 2; kind++) {
            for (int place : new int[] {0, 1, 8, 9}) {
                for (int copies : new int[] {1, 2, 98, 99}) {
                    MadeTown t = Whole.town();
                    int before = t.figure(0, 0, kind, 0);
                    DUE.is("one " + kind + " " + place + " " + copies, t.one(kind, place, copies), 5);
                    DUE.is("its PLACE", t.at(0, 0, 5), place);
                    DUE.is("its COPIES", t.figure(0, 0, kind, 0) - before, copies * (kind == 0 ? 10 : 1));
                    DUE.is("its VARS", t.state(0, 0, 5, 1), kind == 0 ? -4 : NO_VAR);
                }
            }
        }
        MadeTown t = Due.town("kind a has x = 1; end kind b end kind c end kind d end kind e has x = 5; end");
        for (int i = 0; i < 20; i++) {
            DUE.is("the number of a ONE", t.one(i % 5, i % 10, 1 + i), i);
            DUE.is("count 2", t.count(2), i + 1);
        }
        DUE.is("a 21st", t.one(4, 0, 1), -1);
        DUE.is("count 2 of 20", t.count(2), 20);
        DUE.is("the 20th", t.state(0, 40, 19, 0), 5);
        DUE.is("its PLACE", t.at(0, 40, 19), 9);
        DUE.is("no 21st", t.at(0, 0, 20), -1);
    }

    /** Promise 9: "A ONE's VAR begins as v (-9999 .. 9999): true; false for others." */
    private static void begin() {
        for (int one : NO_ONES) {
            refused("begin of ONE " + one, t -> truth(t.begin(one, 0, 1)), 0);
        }
        int[][] noVars = {{0, -1}, {0, 2}, {1, 1}, {3, 1}, {4, 0}, {0, 6}, {0, MIN}, {0, MAX}, {1, 6}, {1, -6}};
        for (int[] n : noVars) {
            refused("begin of ONE " + n[0] + " VAR " + n[1], t -> truth(t.begin(n[0], n[1], 1)), 0);
        }
        for (int v : NO_NUMBERS) {
            refused("begin as " + v, t -> truth(t.begin(0, 0, v)), 0);
            refused("begin as " + v, t -> truth(t.begin(2, 1, v)), 0);
        }
        for (int v : new int[] {-9999, -9998, 0, 9998, 9999}) {
            MadeTown t = Whole.town();
            DUE.is("begin 2 1 " + v, t.begin(2, 1, v), true);
            DUE.is("state 2 1", t.state(0, 0, 2, 1), v);
            DUE.is("state 2 0 stays", t.state(0, 0, 2, 0), 20);
            DUE.is("state 0 1 stays", t.state(0, 0, 0, 1), -4);
            DUE.is("another ONE begins as told", t.one(0, 0, 1), 5);
            DUE.is("its VAR", t.state(0, 0, 5, 1), -4);
        }
    }

    /** Promise 10: "THE ORDER is dealt, or by numbers." */
    private static void order() {
        MadeTown t = Due.giveAndTake(new MadeTown());
        int seed = Due.seedOfOneFirst(t);
        for (boolean dealt : new boolean[] {false, true, true, false, false, true, false}) {
            t.order(dealt);
            DUE.is("dealt: " + dealt, t.state(seed, 1, 0, 0), dealt ? 0 : 4);
        }
    }

    /** Promise 11: "LOT n (1 .. 9999) of a ONE's number (0 .. 19) in a TICK (0 .. 39), which (0 .. 1000); NONE". */
    private static void lot() {
        for (int n : new int[] {0, -1, 10000, 10001, MIN, MAX}) {
            refused("lot of " + n, t -> t.lot(0, 0, 0, 0, n), -1);
        }
        for (int one : new int[] {-1, 20, 21, MIN, MAX}) {
            refused("lot of ONE " + one, t -> t.lot(0, one, 0, 0, 1), -1);
        }
        for (int tick : NO_TICKS) {
            refused("lot in TICK " + tick, t -> t.lot(0, 0, tick, 0, 1), -1);
        }
        for (int which : new int[] {-1, 1001, 1002, MIN, MAX}) {
            refused("lot " + which, t -> t.lot(0, 0, 0, which, 1), -1);
        }
        // A ONE's number need not be there.
        for (int one : new int[] {0, 1, 5, 18, 19}) {
            for (int tick : new int[] {0, 1, 38, 39}) {
                for (int which : new int[] {0, 1, 999, 1000}) {
                    MadeTown t = Whole.town();
                    DUE.is("lot of 1", t.lot(MAX, one, tick, which, 1), 0);
                    for (int n : new int[] {2, 1000, 9998, 9999}) {
                        DUE.is("lot of " + n, t.lot(MIN, one, tick, which, n), Model.lotOf(MIN, one, tick, which, n));
                    }
                }
            }
        }
    }

    /** Promise 12: "-1000000: no such ones." */
    private static void state() {
        for (int t : NO_TIMES) {
            refused("state behind " + t, town -> town.state(0, t, 0, 0), NO_VAR);
        }
        for (int one : NO_ONES) {
            refused("state of ONE " + one, town -> town.state(0, 1, one, 0), NO_VAR);
        }
        int[][] noVars = {{0, -1}, {0, 2}, {1, 1}, {4, 0}, {3, -1}, {0, MIN}, {0, MAX}};
        for (int[] n : noVars) {
            refused("state of ONE " + n[0] + " VAR " + n[1], town -> town.state(0, 1, n[0], n[1]), NO_VAR);
        }
        MadeTown t = counting();
        for (int ticks = 0; ticks <= 40; ticks++) {
            DUE.is("state behind " + ticks, t.state(MIN, ticks, 1, 1), 5 + ticks);
        }
        DUE.is("state of the last ONE and VAR", t.state(MAX, 40, 1, 1), 45);
    }

    /** The second ONE's second VAR is 5 and as much more as there are TICKS; the first one quits in TICK 3. */
    private static MadeTown counting() {
        MadeTown t = Due.town("kind a has x = 7; rule if tick == 3 quit; end end kind b has x = 0; has y = 5; rule add y 1; end end");
        t.one(0, 2, 1);
        t.one(1, 9, 3);
        return t;
    }

    /** Promise 13: "-2: it has quit; NONE: no such ones" - and NONE where both could be told. */
    private static void at() {
        for (int t : NO_TIMES) {
            refused("at behind " + t, town -> town.at(0, t, 0), -1);
            refused("at behind " + t + " of one that quits", town -> town.at(0, t, 1), -1);
        }
        for (int one : NO_ONES) {
            refused("at of ONE " + one, town -> town.at(0, 5, one), -1);
        }
        MadeTown t = counting();
        for (int ticks = -1; ticks <= 41; ticks++) {
            int due = ticks < 0 || ticks > 40 ? -1 : ticks <= 3 ? 2 : -2;
            DUE.is("at behind " + ticks, t.at(0, ticks, 0), due);
            DUE.is("at of another one behind " + ticks, t.at(0, ticks, 1), due == -1 ? -1 : 9);
        }
    }

    /** Promise 14: "A FIGURE; -1000000000: no such ones." */
    private static void figure() {
        for (int t : NO_TIMES) {
            refused("figure behind " + t, town -> town.figure(0, t, 0, 0), NO_FIGURE);
        }
        for (int kind : NO_KINDS) {
            refused("figure of KIND " + kind, town -> town.figure(0, 1, kind, 0), NO_FIGURE);
        }
        int[][] noVars = {{0, -1}, {0, 2}, {1, 1}, {2, 0}, {2, -1}, {0, MIN}, {0, MAX}};
        for (int[] n : noVars) {
            refused("figure of KIND " + n[0] + " VAR " + n[1], town -> town.figure(0, 1, n[0], n[1]), NO_FIGURE);
        }
        MadeTown t = counting();
        for (int ticks = 0; ticks <= 40; ticks++) {
            DUE.is("figure behind " + ticks, t.figure(3, ticks, 1, 1), 3 * (5 + ticks));
            DUE.is("figure of one that quits", t.figure(3, ticks, 0, 0), 7);
        }
        t.one(1, 0, 99);
        DUE.is("figure of two", t.figure(3, 40, 1, 1), 45 * 102);
    }

    /** Promise 15: "How many WISHES a ONE has in a TICK (0 .. 39) of a RUN (done or not); NONE: no such ones." */
    private static void wishes() {
        for (int tick : NO_TICKS) {
            refused("wishes in TICK " + tick, town -> town.wishes(0, tick, 0), -1);
        }
        for (int one : NO_ONES) {
            refused("wishes of ONE " + one, town -> town.wishes(0, 1, one), -1);
        }
        StringBuilder all = new StringBuilder("kind a has x = 0; ");
        for (int i = 0; i < 8; i++) {
            all.append("rule if tick < 39 add x 0; go 1; give x 1 to near a; give x 1 to pick a; go 0; add x ").append(i / 7).append("; end ");
        }
        MadeTown t = Due.town(all + "end");
        for (int i = 0; i < 20; i++) {
            t.one(0, i % 3, 1);
        }
        for (int one : new int[] {0, 1, 18, 19}) {
            DUE.is("all that there can be, in TICK 0", t.wishes(0, 0, one), 48);
            DUE.is("in TICK 38", t.wishes(0, 38, one), 48);
            DUE.is("in TICK 39", t.wishes(0, 39, one), 0);
            // Each of them is done: 8 times it goes by 1 in a TICK.
            DUE.is("PLACE behind a TICK", t.at(0, 1, one), (one % 3 + 8) % 10);
        }
        DUE.is("the last WISH of each is done", t.figure(0, 1, 0, 0), 20);
        MadeTown none = Due.town("kind a rule if 1 == 2 go 1; end rule end end kind b end");
        none.one(0, 0, 1);
        none.one(1, 0, 1);
        DUE.is("no WISHES", none.wishes(0, 0, 0), 0);
        DUE.is("no WISHES in TICK 39", none.wishes(0, 39, 0), 0);
        DUE.is("no WISHES without RULES", none.wishes(0, 39, 1), 0);
    }

    /** Promise 16: "ONES CHANGED (bits) up to t, if a ONE's WISHES in a TICK (below t) are UNDONE; NONE". */
    private static void changed() {
        for (int t : NO_TIMES) {
            refused("changed up to " + t, town -> town.changed(0, t, 0, 0), -1);
        }
        for (int one : NO_ONES) {
            refused("changed by ONE " + one, town -> town.changed(0, 5, one, 0), -1);
        }
        for (int tick : new int[] {-1, 5, 6, 40, MIN, MAX}) {
            refused("changed by TICK " + tick, town -> town.changed(0, 5, 0, tick), -1);
        }
        refused("changed up to 0", town -> town.changed(0, 0, 0, 0), -1);
        refused("changed up to 0 by TICK -1", town -> town.changed(0, 0, 0, -1), -1);
        refused("changed by TICK 40", town -> town.changed(0, 40, 0, 40), -1);
        MadeTown t = counting();
        for (int up : new int[] {1, 2, 39, 40}) {
            DUE.is("changed by the first TICK up to " + up, t.changed(0, up, 1, 0), 2);
            DUE.is("changed by the last TICK up to " + up, t.changed(0, up, 1, up - 1), 2);
            DUE.is("changed by the TICK " + up, t.changed(0, up, 1, up), -1);
        }
        DUE.is("none is CHANGED", t.changed(0, 3, 0, 2), 0);
        DUE.is("the first one", t.changed(0, 4, 0, 3), 1);
        DUE.is("that has quit already", t.changed(0, 9, 0, 4), 0);
    }

    /** Promise 17: "-2: none up to t; NONE: no such ones" - and NONE where both could be told. */
    private static void first() {
        for (int t : NO_TIMES) {
            refused("first up to " + t, town -> town.first(0, t, 0, 0, 0), -1);
        }
        for (int one : NO_ONES) {
            refused("first by ONE " + one, town -> town.first(0, 5, one, 0, 0), -1);
            refused("first of ONE " + one, town -> town.first(0, 5, 0, 0, one), -1);
            refused("first by and of ONE " + one, town -> town.first(0, 5, one, 0, one), -1);
        }
        for (int tick : new int[] {-1, 5, 6, 40, MIN, MAX}) {
            refused("first by TICK " + tick, town -> town.first(0, 5, 0, tick, 0), -1);
        }
        refused("first up to 0", town -> town.first(0, 0, 0, 0, 0), -1);
        MadeTown t = counting();
        for (int up : new int[] {1, 2, 39, 40}) {
            DUE.is("first by TICK 0 up to " + up, t.first(0, up, 1, 0, 1), 0);
            DUE.is("first by the last TICK up to " + up, t.first(0, up, 1, up - 1, 1), up - 1);
            DUE.is("first by TICK " + up, t.first(0, up, 1, up, 1), -1);
            DUE.is("none up to " + up, t.first(0, up, 1, 0, 0), -2);
            DUE.is("NONE ahead of -2", t.first(0, up, 1, up, 0), -1);
        }
        DUE.is("NONE ahead of -2: no such ONE", t.first(0, 2, 0, 0, 2), -1);
        DUE.is("-2 of itself", t.first(0, 2, 0, 0, 0), -2);
    }

    /** Promise 18: "A CAUSE: its number. NONE, and nothing happens: 4 are there, no such SETTING, v." */
    private static void cause() {
        for (int k : NO_SETTINGS) {
            refused("cause of SETTING " + k, t -> t.cause(k, 1), -1);
        }
        for (int v : NO_NUMBERS) {
            refused("cause of number " + v, t -> t.cause(0, v), -1);
        }
        fullRefused("a fifth cause", t -> t.cause(0, 1), -1);
        fullRefused("a fifth cause of no SETTING", t -> t.cause(-1, 1), -1);
        for (int v : new int[] {-9999, -9998, 9998, 9999}) {
            MadeTown t = Due.town("set a = 0; set b = 0; set c = 0; kind k has x = 0; rule add x c; end end");
            t.one(0, 0, 1);
            DUE.is("cause 0", t.cause(2, v), 0);
            DUE.is("its share", t.share(0, 0, 1, 0, 0), v);
            for (int i = 1; i < 4; i++) {
                DUE.is("count 3", t.count(3), i);
                DUE.is("cause " + i, t.cause(2, v), i);
            }
            DUE.is("count 3 of 4", t.count(3), 4);
            DUE.is("a fifth", t.cause(2, v), -1);
            DUE.is("count 3 still", t.count(3), 4);
            DUE.is("SETTINGS stay as they are", t.setting(2), 0);
        }
    }

    /** Promise 19: "No CAUSES any more: how many there were." */
    private static void clear() {
        for (int n = 0; n <= 4; n++) {
            MadeTown t = Due.town("set a = 0; kind k has x = 0; rule add x a; end end");
            t.one(0, 0, 1);
            for (int i = 0; i < n; i++) {
                t.cause(0, i + 1);
            }
            DUE.is("clear of " + n, t.clear(), n);
            DUE.is("none any more", t.count(3), 0);
            DUE.is("no share", t.share(0, 0, 1, 0, 0), NO_SHARE);
            DUE.is("clear of none", t.clear(), 0);
            DUE.is("cause 0 anew", t.cause(0, 50), 0);
            DUE.is("its share alone", t.share(0, 0, 1, 0, 0), 50);
        }
        MadeTown t = Whole.town();
        t.clear();
        t.cause(0, 9);
        t.cause(1, -2);
        DUE.is("all but the CAUSES stays", Whole.told(t).equals(Whole.told(Whole.town())), true);
    }

    /** Promise 20: "-1000000000000: no such ones." */
    private static void share() {
        for (int cause : new int[] {-1, 2, 3, 4, MIN, MAX}) {
            refused("share of CAUSE " + cause, town -> town.share(cause, 0, 1, 0, 0), NO_SHARE);
        }
        for (int cause : new int[] {-1, 4, 5, 31, 32}) {
            fullRefused("share of CAUSE " + cause, town -> town.share(cause, 0, 1, 0, 0), NO_SHARE);
        }
        for (int t : NO_TIMES) {
            refused("share behind " + t, town -> town.share(0, 0, t, 0, 0), NO_SHARE);
        }
        for (int kind : NO_KINDS) {
            refused("share of KIND " + kind, town -> town.share(0, 0, 1, kind, 0), NO_SHARE);
        }
        int[][] noVars = {{0, -1}, {0, 2}, {1, 1}, {2, 0}, {0, MIN}, {0, MAX}};
        for (int[] n : noVars) {
            refused("share of KIND " + n[0] + " VAR " + n[1], town -> town.share(0, 0, 1, n[0], n[1]), NO_SHARE);
        }
        MadeTown t = Due.town("set a = 0; kind k has y = 9; has x = 0; rule add x a; end end");
        t.one(0, 0, 2);
        t.cause(0, 3);
        DUE.is("share behind 0", t.share(0, 0, 0, 0, 1), 0);
        DUE.is("share behind 1", t.share(0, 0, 1, 0, 1), 6);
        DUE.is("share behind 40", t.share(0, MIN, 40, 0, 1), 240);
        DUE.is("share of a VAR that stays", t.share(0, MAX, 40, 0, 0), 0);
    }

    /** Promise 21: "NONE, and nothing happens: 8 are there, no such FIGURE, low above high." */
    private static void seen() {
        for (int t : NO_TIMES) {
            refused("seen behind " + t, town -> town.seen(t, 0, 0, 5, 6), -1);
        }
        for (int kind : NO_KINDS) {
            refused("seen of KIND " + kind, town -> town.seen(1, kind, 0, 5, 6), -1);
        }
        int[][] noVars = {{0, -1}, {0, 2}, {1, 1}, {2, 0}, {0, MIN}, {0, MAX}};
        for (int[] n : noVars) {
            refused("seen of KIND " + n[0] + " VAR " + n[1], town -> town.seen(1, n[0], n[1], 5, 6), -1);
        }
        int[][] above = {{1, 0}, {6, 5}, {0, -1}, {MAX, MIN}, {MAX, MAX - 1}, {MIN + 1, MIN}};
        for (int[] n : above) {
            refused("seen from " + n[0] + " to " + n[1], town -> town.seen(1, 0, 0, n[0], n[1]), -1);
        }
        fullRefused("a ninth seen", town -> town.seen(1, 0, 0, 5, 6), -1);
        fullRefused("a ninth seen of none", town -> town.seen(41, 9, 9, 6, 5), -1);
        // "lies between low and high, both counted": x is 100 behind any TICK.
        int[][] good = {{100, 100, 1}, {99, 99, 0}, {101, 101, 0}, {99, 100, 1}, {100, 101, 1}, {98, 99, 0}, {101, 102, 0},
            {MIN, MAX, 1}, {MIN, MIN, 0}, {MAX, MAX, 0}, {MIN, 100, 1}, {MIN, 99, 0}, {100, MAX, 1}, {101, MAX, 0}};
        for (int[] n : good) {
            for (int t : new int[] {0, 1, 39, 40}) {
                MadeTown town = Due.town("kind j has x = 7; end kind k has y = 1; has x = 50; end");
                town.one(1, 0, 2);
                town.one(0, 0, 1);
                DUE.is("seen", town.seen(t, 1, 1, n[0], n[1]), 0);
                DUE.is("count 4", town.count(4), 1);
                DUE.is("meets", town.meets(3), n[2]);
            }
        }
        MadeTown town = Due.town("kind k has x = 0; rule add x 1; end end");
        town.one(0, 0, 1);
        for (int i = 0; i < 8; i++) {
            DUE.is("the number of a SEEN", town.seen(i, 0, 0, i, i), i);
            DUE.is("count 4", town.count(4), i + 1);
            DUE.is("meets", town.meets(1), 1);
        }
        DUE.is("a ninth", town.seen(0, 0, 0, 5, 5), -1);
        DUE.is("count 4 of 8", town.count(4), 8);
        DUE.is("a ninth is not there", town.meets(1), 1);
        town.begin(0, 0, 1);
        DUE.is("none of 8 is so", town.meets(1), 0);
    }

    /** Promise 22: each of its refusals. */
    private static void span() {
        for (int k : NO_SETTINGS) {
            refused("span of SETTING " + k, t -> t.span(k, 0, 1, 1), -1);
        }
        refused("span of a SETTING that has one", t -> t.span(0, 0, 1, 1), -1);
        refused("span of another that has one", t -> t.span(2, 0, 0, 1), -1);
        int[][] bad = {{1, 0, 1}, {0, -1, 1}, {9999, -9999, 1}, {-9999, 9999, 1}, {-10000, -9999, 1}, {9999, 10000, 1}, {-10000, 10000, 9999},
            {10000, 10000, 1}, {-10000, -10000, 1}, {MIN, 0, 9999}, {0, MAX, 9999}, {MIN, MAX, 1}, {MAX, MIN, 1}, {0, 1, 0}, {0, 1, -1},
            {0, 1, 10000}, {0, 1, MIN}, {0, 1, MAX}, {0, 0, 0}, {0, 0, 10000}, {0, 33, 1}, {0, 34, 1}, {0, 9999, 299}, {0, 9999, 300}};
        for (int[] n : bad) {
            // 6 points are there: 33 numbers make 198, 34 make 204.
            boolean good = n[0] <= n[1] && n[0] >= -9999 && n[1] <= 9999 && n[2] >= 1 && n[2] <= 9999 && (n[1] - n[0]) / n[2] + 1 <= 33;
            if (!good) {
                refused("span from " + n[0] + " to " + n[1] + " by " + n[2], t -> t.span(1, n[0], n[1], n[2]), -1);
            }
        }
        int[][] numbers = {{0, 32, 1, 33}, {5, 5, 1, 1}, {5, 5, 9999, 1}, {-9999, -9999, 1, 1}, {9999, 9999, 1, 1}, {-9999, 9999, 9999, 3},
            {-9999, 9998, 9999, 2}, {0, 9999, 9999, 2}, {0, 9998, 9999, 1}, {0, 1, 1, 2}, {0, 1, 2, 1}, {0, 2, 2, 2}, {-1, 1, 1, 3},
            {0, 9999, 313, 32}, {0, 9999, 312, 33}, {0, 32, 1, 33}, {-32, 0, 1, 33}};
        for (int[] n : numbers) {
            MadeTown t = Whole.town();
            DUE.is("span from " + n[0] + " to " + n[1] + " by " + n[2], t.span(1, n[0], n[1], n[2]), 6 * n[3]);
            DUE.is("count 5", t.count(5), 3);
        }
        fullRefused("a fourth span", t -> t.span(1, 0, 0, 1), -1);
        MadeTown four = Due.town("set a = 0; set b = 0; set c = 0; set d = 0;");
        for (int k = 0; k < 3; k++) {
            DUE.is("span " + k, four.span(k, 7, 7, 1), 1);
            DUE.is("count 5", four.count(5), k + 1);
        }
        DUE.is("a fourth, of a SETTING without", four.span(3, 7, 7, 1), -1);
        DUE.is("count 5 of three", four.count(5), 3);
        moreThan200();
    }

    /** "more than 200 points" - of one SPAN, of two, of three. */
    private static void moreThan200() {
        int[][] sizes = {{199}, {200}, {201}, {202}, {1, 200}, {1, 201}, {2, 100}, {2, 101}, {100, 2}, {100, 3}, {200, 1}, {200, 2}, {14, 14},
            {15, 14}, {14, 15}, {4, 5, 10}, {4, 5, 11}, {5, 5, 8}, {5, 5, 9}, {1, 1, 200}, {1, 1, 201}, {3, 8, 8}, {3, 8, 9}, {2, 3, 33},
            {2, 3, 34}, {200, 1, 1}, {200, 1, 2}};
        for (int[] n : sizes) {
            MadeTown t = Due.town("set a = 0; set b = 0; set c = 0;");
            int points = 1;
            for (int k = 0; k < n.length; k++) {
                boolean fits = points * n[k] <= 200;
                DUE.is("span of " + n[k] + " numbers behind " + points + " points", t.span(k, 3, 2 + n[k], 1), fits ? points * n[k] : -1);
                points *= fits ? n[k] : 1;
                DUE.is("points", t.meets(1), points);
                DUE.is("SPANS", t.count(5), fits ? k + 1 : k);
            }
        }
        MadeTown t = Due.town("set a = 0; set b = 0;");
        DUE.is("-9999 .. 9999 by 100", t.span(0, -9999, 9999, 100), 200);
        DUE.is("-9999 .. 9999 by 99", Due.town("set a = 0;").span(0, -9999, 9999, 99), -1);
        DUE.is("-9999 .. 9999 by 1", Due.town("set a = 0;").span(0, -9999, 9999, 1), -1);
        DUE.is("one of one number more", t.span(1, 0, 0, 1), 200);
    }

    /** Promise 23: "NONE: no such s. (Without SPANS: one point.)" */
    private static void meets() {
        for (int s : NO_SEEDS) {
            refused("meets " + s, t -> t.meets(s), -1);
        }
        MadeTown t = Due.town("kind k has x = 1; end");
        for (int s = 1; s <= 3; s++) {
            DUE.is("without SPANS, SEEN, ONES", t.meets(s), 1);
        }
        t.seen(0, 0, 0, 1, 1);
        for (int s = 1; s <= 3; s++) {
            DUE.is("without SPANS, SEEN is not so", t.meets(s), 0);
        }
        t.one(0, 0, 1);
        for (int s = 1; s <= 3; s++) {
            DUE.is("without SPANS, SEEN is so", t.meets(s), 1);
        }
    }

    /** Promise 24: "-1000000: no such ones." */
    private static void met() {
        for (int s : NO_SEEDS) {
            refused("met " + s, t -> t.met(s, 0, 0), NO_VAR);
        }
        for (int span : new int[] {-1, 2, 3, MIN, MAX}) {
            refused("met of SPAN " + span, t -> t.met(1, 0, span), NO_VAR);
        }
        // Of the six points 4 MEET by SEED 0, and 2 by SEEDS 0 and 1.
        for (int i : new int[] {-1, -2, 4, 5, 6, 200, MIN, MAX}) {
            refused("met at point " + i, t -> t.met(1, i, 0), NO_VAR);
        }
        for (int i : new int[] {-1, 2, 3, 4}) {
            refused("met by two SEEDS at point " + i, t -> t.met(2, i, 1), NO_VAR);
        }
        for (int span : new int[] {-1, 3, 4}) {
            fullRefused("met of SPAN " + span, t -> t.met(1, 0, span), NO_VAR);
        }
        int[][] due = {{0, 2, 7}, {1, 2, 14}, {2, 4, 7}, {3, 4, 14}};
        MadeTown t = Whole.town();
        for (int[] n : due) {
            DUE.is("met 1 " + n[0] + " 0", t.met(1, n[0], 0), n[1]);
            DUE.is("met 1 " + n[0] + " 1", t.met(1, n[0], 1), n[2]);
        }
        DUE.is("met without SPANS", Due.town("set a = 1; kind k end").met(1, 0, 0), NO_VAR);
        MadeTown none = Due.town("set a = 1; kind k has x = 1; end");
        none.span(0, 0, 1, 1);
        DUE.is("met at the last point", none.met(3, 1, 0), 1);
        none.seen(0, 0, 0, 1, 1);
        DUE.is("met where none MEETS", none.met(3, 0, 0), NO_VAR);
    }

    /** Promise 25: "NONE: no such s." */
    private static void untold() {
        for (int s : NO_SEEDS) {
            refused("untold " + s, t -> t.untold(s), -1);
        }
        for (int s = 1; s <= 3; s++) {
            DUE.is("c has both its ends", Whole.town().untold(s), 2);
        }
    }

    /** Promise 26: "-1000000000: no point MEETS (what 0, 1), no such ones." */
    private static void would() {
        for (int s : NO_SEEDS) {
            refused("would " + s, t -> t.would(s, 1, 9, 4, 0, 0, 0), NO_FIGURE);
        }
        for (int k : NO_SETTINGS) {
            refused("would of SETTING " + k, t -> t.would(1, k, 9, 4, 0, 0, 1), NO_FIGURE);
        }
        for (int v : NO_NUMBERS) {
            refused("would of number " + v, t -> t.would(1, 1, v, 4, 0, 0, 2), NO_FIGURE);
        }
        for (int ticks : NO_TIMES) {
            refused("would behind " + ticks, t -> t.would(1, 1, 9, ticks, 0, 0, 0), NO_FIGURE);
        }
        for (int kind : NO_KINDS) {
            refused("would of KIND " + kind, t -> t.would(1, 1, 9, 4, kind, 0, 1), NO_FIGURE);
        }
        int[][] noVars = {{0, -1}, {0, 2}, {1, 1}, {2, 0}, {0, MIN}, {0, MAX}};
        for (int[] n : noVars) {
            refused("would of KIND " + n[0] + " VAR " + n[1], t -> t.would(1, 1, 9, 4, n[0], n[1], 2), NO_FIGURE);
        }
        for (int what : new int[] {-1, 3, 4, MIN, MAX}) {
            refused("would what " + what, t -> t.would(1, 1, 9, 4, 0, 0, what), NO_FIGURE);
        }
        MadeTown t = Due.town("set a = 1; set b = 2; kind k has y = 4; has x = 0; rule add x b; end end");
        t.one(0, 0, 1);
        for (int v : new int[] {-9999, -9998, 0, 9998, 9999}) {
            for (int what = 0; what < 2; what++) {
                DUE.is("would with " + v + ", what " + what, t.would(3, 1, v, 1, 0, 1, what), v);
                DUE.is("would behind no TICK", t.would(3, 1, v, 0, 0, 1, what), 0);
                DUE.is("would of another VAR", t.would(1, 1, v, 40, 0, 0, what), 4);
            }
            DUE.is("would be more with " + v, t.would(3, 1, v, 1, 0, 1, 2), v > 2 ? 3 : 0);
        }
        DUE.is("as much is not more", t.would(3, 1, 2, 40, 0, 1, 2), 0);
        DUE.is("one more is", t.would(3, 1, 3, 40, 0, 1, 2), 3);
        DUE.is("one less is not", t.would(3, 1, 1, 40, 0, 1, 2), 0);
        t.seen(1, 0, 1, 3, 3);
        DUE.is("no point MEETS: the least", t.would(1, 1, 3, 1, 0, 1, 0), NO_FIGURE);
        DUE.is("no point MEETS: the most", t.would(1, 1, 3, 1, 0, 1, 1), NO_FIGURE);
        DUE.is("no point MEETS: more at none", t.would(1, 1, 3, 1, 0, 1, 2), 0);
        DUE.is("no point MEETS and no such ones", t.would(1, 1, 3, 41, 0, 1, 2), NO_FIGURE);
    }

    /** Promise 27: "k FACTORS (1 .. 3)", "ROWS 0 .. 2 to the k less 1", "one at least", "(bits 1 .. 7: bit e is EFFECT e)". */
    private static void tells() {
        for (int k : new int[] {0, 4, 5, -1, 31, 32, 33, 34, MIN, MAX}) {
            refused("tells of " + k + " FACTORS", t -> t.tells(k, 1, 0), -1);
            refused("fewest of " + k + " FACTORS", t -> t.fewest(k, 0), -1);
            refused("tells of " + k + " FACTORS, an EFFECT", t -> t.tells(k, 3, 2), -1);
            refused("fewest of " + k + " FACTORS, an EFFECT", t -> t.fewest(k, 2), -1);
        }
        for (int k = 1; k <= 3; k++) {
            int factors = k;
            int end = 1 << (1 << k);
            for (int bad : new int[] {end, end + 1, end + 2, 2 * end, -1, -2, MIN, MAX, MIN + 2}) {
                refused("tells of PLAN " + bad + ", " + k, t -> t.tells(factors, bad, 0), -1);
                refused("tells of EFFECTS " + bad + ", " + k, t -> t.tells(factors, 1, bad), -1);
                refused("fewest of EFFECTS " + bad + ", " + k, t -> t.fewest(factors, bad), -1);
            }
            refused("tells of the empty PLAN", t -> t.tells(factors, 0, 0), -1);
            refused("tells of the empty PLAN, an EFFECT", t -> t.tells(factors, 0, 2), -1);
            for (int odd : new int[] {1, 3, end - 1}) {
                refused("tells of EFFECTS " + odd, t -> t.tells(factors, end - 1, odd), -1);
                refused("fewest of EFFECTS " + odd, t -> t.fewest(factors, odd), -1);
            }
            MadeTown t = new MadeTown();
            DUE.is("all ROWS tell all", t.tells(k, end - 1, end - 2), 1);
            DUE.is("one ROW less does not", t.tells(k, end - 2, end - 2), 0);
            DUE.is("one ROW tells none", t.tells(k, 1, 0), 1);
            DUE.is("the last ROW tells none", t.tells(k, end / 2, 0), 1);
            DUE.is("one ROW does not tell the last EFFECT", t.tells(k, 1, end / 2), 0);
            DUE.is("all ROWS tell none", t.tells(k, end - 1, 0), 1);
            DUE.is("all ROWS tell the last EFFECT", t.tells(k, end - 1, end / 2), 1);
        }
    }

    /** Promise 28: "-2: none; NONE: no such ones": as all ROWS tell all EFFECTS, there is always one. */
    private static void fewest() {
        for (int k = 1; k <= 3; k++) {
            int end = 1 << (1 << k);
            MadeTown t = new MadeTown();
            DUE.is("fewest for none", t.fewest(k, 0), 1);
            DUE.is("fewest for all", t.fewest(k, end - 2), end - 1);
            for (int effects = 0; effects < end; effects++) {
                int plan = t.fewest(k, effects);
                DUE.is("fewest " + k + " " + effects, plan, new Model().fewest(k, effects));
                DUE.is("is there for even bits alone", plan > 0, effects % 2 == 0);
            }
        }
    }

    /** Promise 29: "NONE for others." */
    private static void count() {
        int[] due = {3, 3, 5, 2, 1, 2, 22, -1, -1, -1, 2, 1, 0, -1, -1, -1, -1, -1, -1, -1, 2, 3, 0, -1, -1, -1, -1, -1, -1, -1, -1};
        for (int what = 0; what < due.length; what++) {
            int asked = what;
            refused("count " + what, t -> t.count(asked), due[what]);
        }
        for (int what : new int[] {-1, -2, -10, -20, 31, 100, 110, MIN, MAX, MIN + 10, MIN + 20, MIN + 12, MIN + 22}) {
            refused("count " + what, t -> t.count(what), -1);
        }
        int[] full = {3, 3, 20, 4, 8, 3, 2000};
        for (int what = 0; what < full.length; what++) {
            DUE.is("full: count " + what, Whole.full().count(what), full[what]);
        }
        MadeTown five = Due.town("kind a end kind b end kind c end kind d end kind e has x = 1; rule end rule end end");
        DUE.is("VARS of the fifth KIND", five.count(14), 1);
        DUE.is("no sixth KIND's", five.count(15), -1);
        DUE.is("RULES of the fifth KIND", five.count(24), 2);
        DUE.is("no sixth KIND's RULES", five.count(25), -1);
    }
}
