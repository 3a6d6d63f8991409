/** Terms II, sentence by sentence: ONES, a TICK, its WISHES, LOTS, THE ORDER, each at its bounds. */
public final class BoundsOfTicksTest {
    private static final Due DUE = new Due();
    private static final int MIN = Integer.MIN_VALUE;
    private static final int MAX = Integer.MAX_VALUE;
    private static final String LEAST = e(MIN);
    private static final String MOST = e(MAX);

    public static void main(String[] args) {
        varsBeginAsTold();
        namesInAnE();
        aheadOfTheTick();
        ruleByRule();
        adds();
        goes();
        gives();
        givesOfWhatItHasNow();
        givesToNone();
        givesOfCopies();
        quits();
        quitsAreNoMore();
        hasQuitByNow();
        nears();
        picks();
        counts();
        countsOfVarsByTheirNumber();
        lots();
        lotsThatAreNeeded();
        lotsOfEachTick();
        theOrder();
        theOrderOfAlikeLots();
        wraps();
        divisions();
        divisionsBy0();
        deepestE();
        held();
        ticksOfARun();
        DUE.end();
    }

    private static int held(long v) {
        return (int) Math.max(-9999, Math.min(9999, v));
    }

    /** An E that is a number: INTS have four digits, so larger ones are told by 13 bits and 13 bits. */
    private static String e(int number) {
        if (number >= -9999 && number <= 9999) {
            return number < 0 ? "(0-" + -number + ")" : "" + number;
        }
        return "((" + e(number >> 26) + "*8192+" + (number >> 13 & 8191) + ")*8192+" + (number & 8191) + ")";
    }

    /** Whether a COND holds, for the second ONE of a KIND with three VARS: 7, 8, 9; place is 3, z is 0. */
    private static void holds(String cond, boolean due) {
        MadeTown t = Due.town("set z = 0; set s = 5; kind j has x = 1; has y = 2; end "
                + "kind k has x = 7; has y = 8; has w = 9; rule if " + cond + " add x 100; end end");
        t.one(0, 3, 2);
        t.one(1, 3, 4);
        DUE.is("if " + cond, t.state(0, 1, 1, 0), due ? 107 : 7);
    }

    /** "its VARS begin as told" */
    private static void varsBeginAsTold() {
        MadeTown t = Due.town("kind k has a = 9999; secret b = -9999; has c = 0; has d = -1; secret e = 1; has f = 42; end "
                + "kind l has a = 5; end");
        int[] due = {9999, -9999, 0, -1, 1, 42};
        t.one(1, 0, 1);
        t.one(0, 0, 99);
        t.one(0, 0, 1);
        for (int ticks : new int[] {0, 1, 40}) {
            for (int var = 0; var < 6; var++) {
                DUE.is("VAR " + var, t.state(0, ticks, 1, var), due[var]);
                DUE.is("FIGURE of VAR " + var, t.figure(0, ticks, 0, var), 100 * due[var]);
            }
            DUE.is("VAR of the other KIND", t.state(0, ticks, 0, 0), 5);
        }
        t.begin(1, 5, -42);
        DUE.is("begin of the last VAR", t.state(0, 1, 1, 5), -42);
        DUE.is("FIGURE of the last VAR", t.figure(0, 1, 0, 5), -42 * 99 + 42);
    }

    /** "A NAME in an E is a VAR of the KIND of the RULE, else a SETTING" - whatever else bears that NAME. */
    private static void namesInAnE() {
        MadeTown t = Due.town("set x = 5; set y = 11; set w = 300; kind k has x = 7; has k = 0; has l = 40; rule add k x + y + w; add l sum k k "
                + "+ sum l x; end end kind l has y = 2; secret w = 0; has x = 0; rule add x y; add w x + w; end end "
                + "kind m has a = 0; rule add a x + y + w; end end");
        t.one(0, 0, 1);
        t.one(1, 0, 1);
        t.one(2, 0, 1);
        t.begin(1, 2, 900);
        DUE.is("its own x, the SETTINGS y and w", t.state(0, 1, 0, 1), 7 + 11 + 300);
        DUE.is("a VAR k of the KIND k, an x of the KIND l", t.state(0, 1, 0, 2), 40 + 0 + 900);
        DUE.is("its own y", t.state(0, 1, 1, 2), 902);
        DUE.is("its own x and w", t.state(0, 1, 1, 1), 900);
        DUE.is("SETTINGS alone", t.state(0, 1, 2, 0), 316);
        t.set(0, 6);
        t.set(2, -1);
        DUE.is("SETTINGS alone, set anew", t.state(0, 1, 2, 0), 16);
        DUE.is("its own x as it was", t.state(0, 1, 0, 1), 7 + 11 - 1);
    }

    /** "E's worked out by what all were ahead of the TICK", though ONES ahead of it have done their WISHES. */
    private static void aheadOfTheTick() {
        MadeTown t = Due.town("kind k has x = 5; has y = 0; rule if tick == 0 add x 10; go 1; quit; end "
                + "rule add y x; end end "
                + "kind l has x = 1; has p = 0; has h = 0; has s = 0; has a = 0; rule add p place; add h here; add s sum k x; "
                + "add a all k; go 1; give x 1 to near l; end end");
        t.one(0, 4, 2);
        t.one(1, 4, 1);
        t.one(1, 4, 1);
        int[] due = {4, 4, 10, 2};
        for (int one = 1; one <= 2; one++) {
            for (int var = 0; var < 4; var++) {
                DUE.is("ONE " + one + " VAR " + var, t.state(0, 1, one, 1 + var), due[var]);
            }
        }
        DUE.is("its own VAR ahead of the TICK", t.state(0, 1, 0, 1), 5);
        DUE.is("its own VAR behind it", t.state(0, 1, 0, 0), 15);
        // In TICK 1 ONE 0 has quit, the others are at PLACE 5.
        int[] next = {9, 6, 10, 2};
        for (int var = 0; var < 4; var++) {
            DUE.is("behind two: VAR " + var, t.state(0, 2, 2, 1 + var), next[var]);
        }
    }

    /** "RULE by RULE of its KIND, in order, those whose COND holds (or that have none): their WISHES, in order" */
    private static void ruleByRule() {
        // Each gift is all that it has then: only in this order 1, 2, 4 come to b, c, d.
        MadeTown t = Due.town("kind a has x = 1; rule give x 99 to near b; add x 2; end rule if 1 == 2 add x 50; end "
                + "rule if 1 == 1 give x 99 to near c; add x 4; end rule give x 99 to near d; add x 8; end end "
                + "kind b has x = 0; end kind c has x = 0; end kind d has x = 0; end");
        for (int kind = 0; kind < 4; kind++) {
            t.one(kind, 7, 1);
        }
        int[] due = {8, 1, 2, 4};
        for (int one = 0; one < 4; one++) {
            DUE.is("behind the RULES, ONE " + one, t.state(0, 1, one, 0), due[one]);
        }
        DUE.is("WISHES", t.wishes(0, 0, 0), 6);
    }

    /** "add: the VAR is so much more": 32 bits that wrap, then held. */
    private static void adds() {
        int[] begins = {0, 1, -1, 9999, -9999};
        int[] amounts = {0, 1, -1, 9999, -9999, MAX, MIN, MAX - 9999, MIN + 9999};
        for (int begin : begins) {
            for (int amount : amounts) {
                MadeTown t = Due.town("kind k has y = 3; has x = 0; rule add x " + e(amount) + "; end end");
                t.one(0, 0, 5);
                t.begin(0, 1, begin);
                DUE.is("add " + amount + " to " + begin, t.state(0, 1, 0, 1), held(begin + amount));
                DUE.is("the other VAR", t.state(0, 1, 0, 0), 3);
            }
        }
        MadeTown t = Due.town("kind k has x = 9999; rule add x " + MOST + "-9999; add x 1; end end");
        t.one(0, 0, 1);
        DUE.is("2^31 - 1 and 1 more wraps", t.state(0, 1, 0, 0), -9999);
        t = Due.town("kind k has x = -9999; rule add x " + LEAST + "+9999; add x 0 - 1; end end");
        t.one(0, 0, 1);
        DUE.is("-2^31 and 1 less wraps", t.state(0, 1, 0, 0), 9999);
        t = Due.town("kind k has x = 9999; rule add x " + MOST + "-9999; add x 0 - " + MOST + "; end end");
        t.one(0, 0, 1);
        DUE.is("2^31 - 1 and back", t.state(0, 1, 0, 0), 0);
    }

    /** "by the ring of 10 (the rest of PLACE and E by 10, 0 or more; that sum does not wrap)" */
    private static void goes() {
        int[] steps = {0, 1, 9, 10, 11, 19, 20, 9999, -1, -9, -10, -11, -20, -9999, MAX, MIN, MAX - 1, MIN + 1};
        for (int step : steps) {
            MadeTown t = Due.town("kind k rule go " + e(step) + "; end end");
            for (int place = 0; place < 10; place++) {
                t.one(0, place, 1);
            }
            for (int place = 0; place < 10; place++) {
                long sum = (long) place + step;
                DUE.is("from " + place + " by " + step, t.at(0, 1, place), (int) ((sum % 10 + 10) % 10));
            }
        }
        MadeTown t = Due.town("kind k rule go 7; go 0 - 9; go 13; end end");
        t.one(0, 9, 1);
        DUE.is("goes one by one", t.at(0, 1, 0), 0);
        DUE.is("and in the next TICK", t.at(0, 2, 0), 1);
    }

    /** "by the lesser of E and what it has now (nothing if that or E is below 1" */
    private static void gives() {
        int[] amounts = {MIN, -9999, -1, 0, 1, 2, 9, 10, 11, 9999, MAX};
        int[] has = {-9999, -1, 0, 1, 2, 10, 9999};
        for (int amount : amounts) {
            MadeTown t = Due.town("kind k has w = 1; has y = 2; has x = 0; rule give x " + e(amount) + " to near l; end end "
                    + "kind l has x = 5; has y = 6; end");
            t.one(0, 3, 7);
            t.one(1, 3, 9);
            for (int had : has) {
                t.begin(0, 2, had);
                int moved = amount < 1 || had < 1 ? 0 : Math.min(amount, had);
                DUE.is("of " + had + " less by " + amount, t.state(0, 1, 0, 2), had - moved);
                DUE.is("of " + had + " more by " + amount, t.state(0, 1, 1, 0), held(5 + moved));
                DUE.is("no other VAR", t.state(0, 1, 0, 1) * 100 + t.state(0, 1, 0, 0) * 10 + t.state(0, 1, 1, 1), 216);
            }
        }
    }

    /** "what it has now": behind all WISHES that have been done ahead of it; moved goods are never made. */
    private static void givesOfWhatItHasNow() {
        MadeTown t = Due.town("kind k has x = 0; rule add x 5; give x 9 to near l; give x 9 to near l; end end kind l has x = 0; end");
        t.one(0, 3, 1);
        t.one(1, 3, 1);
        DUE.is("what was added in the TICK is given", t.state(0, 1, 1, 0), 5);
        DUE.is("but once", t.state(0, 1, 0, 0), 0);
        // 0 gives 4 to 1, who has 1 then and 5: 1 gives 5 of these to 2.
        t = Due.town("kind k has x = 1; rule give x 5 to near l; end end kind l has x = 0; rule give x 5 to near m; end end "
                + "kind m has x = 0; end");
        t.one(0, 3, 1);
        t.one(1, 3, 1);
        t.one(2, 3, 1);
        t.begin(0, 0, 4);
        t.begin(1, 0, 1);
        DUE.is("what came in the TICK is given on", t.state(0, 1, 2, 0), 5);
        DUE.is("all of it", t.state(0, 1, 1, 0), 0);
        // More than 9999 within a TICK.
        t = Due.town("kind k has x = 9999; rule add x 9999; give x 9999 + 9999 to near l; end end "
                + "kind l has x = 1; rule give x 9999 to near m; end end kind m has x = 0; end");
        t.one(0, 3, 1);
        t.one(1, 3, 1);
        t.one(2, 3, 1);
        DUE.is("of 19998 all is given", t.state(0, 1, 0, 0), 0);
        DUE.is("19999 less 9999 is held", t.state(0, 1, 1, 0), 9999);
        DUE.is("what came", t.state(0, 1, 2, 0), 9999);
        // Below 1 by an add that wraps: nothing is given.
        t = Due.town("kind k has x = 1; rule add x " + MOST + "; give x 9 to near l; end end kind l has x = 2; end");
        t.one(0, 3, 1);
        t.one(1, 3, 1);
        DUE.is("of -2^31 nothing is given", t.state(0, 1, 1, 0), 2);
        // 2^31 - 1 come to one that has 1.
        t = Due.town("kind k has x = 0; rule add x " + MOST + "; give x " + MOST + " to near l; end end kind l has x = 1; end");
        t.one(0, 3, 1);
        t.one(1, 3, 1);
        DUE.is("all is given", t.state(0, 1, 0, 0), 0);
        DUE.is("what comes wraps", t.state(0, 1, 1, 0), -9999);
        t.begin(1, 0, 0);
        DUE.is("2^31 - 1 do not wrap", t.state(0, 1, 1, 0), 9999);
    }

    /** "if there is no other one" */
    private static void givesToNone() {
        for (String manner : new String[] {"near", "pick"}) {
            MadeTown t = Due.town("kind k has x = 9; rule give x 4 to " + manner + " k; give x 4 to " + manner
                    + " l; end end kind l has x = 0; end");
            t.one(0, 3, 9);
            DUE.is("alone", t.state(0, 1, 0, 0), 9);
            DUE.is("its WISHES are there", t.wishes(0, 0, 0), 2);
            t.one(0, 4, 1);
            t.one(1, 2, 1);
            DUE.is("others at other PLACES", t.state(0, 40, 0, 0) * 100 + t.state(0, 40, 1, 0) * 10 + t.state(0, 40, 2, 0), 990);
            t.one(1, 3, 1);
            DUE.is("one at its PLACE", t.state(0, 1, 3, 0), 4);
        }
    }

    /** COPIES count in sums alone: what a ONE gives or adds is its own, once. */
    private static void givesOfCopies() {
        MadeTown t = Due.town("kind k has x = 9; rule give x 4 to near l; add x 1; end end kind l has x = 0; end");
        t.one(0, 3, 10);
        t.one(1, 3, 1);
        DUE.is("4 of 9 and 1 more", t.state(0, 1, 0, 0), 6);
        DUE.is("4", t.state(0, 1, 1, 0), 4);
        DUE.is("FIGURE by COPIES", t.figure(0, 1, 0, 0), 60);
    }

    /** "it has quit (WISHES of its behind that in this TICK are done); its VARS stay, it chooses no more" */
    private static void quits() {
        MadeTown t = Due.town("kind k has x = 9; rule if tick == 2 quit; add x 1; give x 3 to near l; go 4; quit; add x 10; end "
                + "rule if tick == 2 add x 100; end rule if 2 < tick add x 1000; end end kind l has x = 0; end");
        t.one(0, 3, 2);
        t.one(1, 3, 1);
        DUE.is("at ahead of it", t.at(0, 2, 0), 3);
        DUE.is("at behind it", t.at(0, 3, 0), -2);
        for (int ticks = 3; ticks <= 40; ticks++) {
            DUE.is("its VAR stays", t.state(0, ticks, 0, 0), 9 + 1 - 3 + 10 + 100);
            DUE.is("and is in the FIGURE", t.figure(0, ticks, 0, 0), 2 * 117);
            DUE.is("it has quit", t.at(0, ticks, 0), -2);
        }
        DUE.is("what it gave", t.state(0, 3, 1, 0), 3);
        DUE.is("its last WISHES", t.wishes(0, 2, 0), 7);
        for (int tick = 3; tick < 40; tick++) {
            DUE.is("no WISHES any more", t.wishes(0, tick, 0), 0);
        }
        MadeTown last = Due.town("kind k has x = 0; rule if tick == 39 quit; end end");
        last.one(0, 3, 1);
        DUE.is("at behind 39", last.at(0, 39, 0), 3);
        DUE.is("in the last TICK", last.at(0, 40, 0), -2);
    }

    /** "is near, picked, here, in sums no more" - from the next TICK on. */
    private static void quitsAreNoMore() {
        MadeTown t = Due.town("kind q has g = 5; has p = 0; rule if tick == 0 quit; end end kind k has g = 90; has p = 90; has h = 0; has s = 0; "
                + "has a = 0; rule add h here; add s sum q g; add a all q; give g 1 to near q; give p 1 to pick q; end end");
        t.one(0, 3, 2);
        t.one(1, 3, 4);
        // In TICK 0 it is there still, but has quit by when ONE 1 gives: of VAR h, s, a the first is counted from TICK to TICK.
        int[][] due = {{6, 10, 2}, {6 + 4, 10, 2}, {6 + 4 + 4, 10, 2}};
        for (int ticks = 1; ticks <= 3; ticks++) {
            for (int i = 0; i < 3; i++) {
                DUE.is("behind " + ticks + " VAR " + (2 + i), t.state(0, ticks, 1, 2 + i), due[ticks - 1][i]);
            }
            DUE.is("nothing given to near", t.state(0, ticks, 1, 0), 90);
            DUE.is("nothing given to pick", t.state(0, ticks, 1, 1), 90);
        }
        // The next near one has the next least number; of those picked there is one less.
        t = Due.town("kind q has g = 0; has p = 0; rule if tick == 0 and g == 1 quit; end end "
                + "kind k has g = 90; has p = 90; rule give g 1 to near q; give p 1 to pick q; end end");
        for (int i = 0; i < 4; i++) {
            t.one(0, 3, 1);
        }
        t.one(1, 3, 1);
        t.begin(0, 0, 1);
        t.begin(2, 0, 1);
        for (int seed = 0; seed < 20; seed++) {
            DUE.is("near is ONE 1 then", t.state(seed, 2, 1, 0), 1);
            int picked = new int[] {1, 3}[t.lot(seed, 4, 1, 0, 2)];
            int before = t.state(seed, 1, picked, 1);
            DUE.is("picked of two", t.state(seed, 2, picked, 1) - before, 1);
        }
    }

    /** "or that has quit by now": by THE ORDER. */
    private static void hasQuitByNow() {
        MadeTown t = Due.town("kind q has g = 0; rule if tick == 1 quit; end end kind k has g = 9; rule give g 1 to near q; end end");
        t.one(1, 3, 1);
        t.one(0, 3, 1);
        t.one(1, 3, 1);
        t.one(0, 3, 1);
        DUE.is("ahead of the quit: given", t.state(0, 2, 0, 0), 7);
        DUE.is("behind the quit: nothing", t.state(0, 2, 2, 0), 8);
        DUE.is("not to the next one either", t.state(0, 2, 3, 0), 0);
        DUE.is("it came", t.state(0, 2, 1, 0), 3);
        // One that has quit gives in that TICK itself.
        t = Due.town("kind q has g = 4; rule quit; give g 3 to near k; end end kind k has g = 0; rule give g 2 to near q; end end");
        t.one(0, 3, 1);
        t.one(1, 3, 1);
        DUE.is("given by one that has quit", t.state(0, 1, 1, 0), 3);
        DUE.is("not given back", t.state(0, 1, 0, 0), 1);
        // By THE ORDER that is dealt.
        t = Due.town("kind q has g = 0; rule quit; end end kind k has g = 9; rule give g 1 to near q; end end");
        t.one(0, 3, 1);
        t.one(1, 3, 1);
        t.order(true);
        for (int seed = 0; seed < 20; seed++) {
            boolean quitsFirst = t.lot(seed, 0, 0, 1000, 1000) <= t.lot(seed, 1, 0, 1000, 1000);
            DUE.is("dealt, seed " + seed, t.state(seed, 1, 0, 0), quitsFirst ? 0 : 1);
        }
    }

    /** "the other ONE of that KIND (not itself) at its PLACE ahead of the TICK with the least number" */
    private static void nears() {
        MadeTown t = Due.town("kind k has x = 0; rule if 0 < x give x 1 to near k; end end kind l has x = 0; rule if 0 < x give x 1 to near k; end end");
        // 0 at PLACE 2; 1 an l at 3; 2, 3, 4 at 3; 5 at 2; 6 an l at 3; .. 19 at 3.
        t.one(0, 2, 1);
        t.one(1, 3, 1);
        t.one(0, 3, 1);
        t.one(0, 3, 1);
        t.one(0, 3, 1);
        t.one(0, 2, 1);
        t.one(1, 3, 1);
        while (t.count(2) < 20) {
            t.one(0, 3, 1);
        }
        int[][] due = {{0, 5}, {1, 2}, {2, 3}, {3, 2}, {4, 2}, {5, 0}, {6, 2}, {19, 2}};
        for (int[] n : due) {
            t.begin(n[0], 0, 1);
            DUE.is("near of ONE " + n[0], t.state(0, 1, n[1], 0), 1);
            DUE.is("given", t.state(0, 1, n[0], 0), 0);
            t.begin(n[0], 0, 0);
        }
        // The one that comes to its PLACE in this TICK is near in the next one, and the one that goes is near still.
        t = Due.town("kind m has x = 0; rule if tick == 0 go 1; end end kind g has x = 9; rule give x 1 to near m; end end");
        t.one(0, 2, 1);
        t.one(0, 3, 1);
        t.one(1, 3, 1);
        DUE.is("that goes", t.state(0, 1, 1, 0), 1);
        DUE.is("that comes", t.state(0, 1, 0, 0), 0);
        DUE.is("that has come", t.state(0, 2, 0, 0), 1);
        DUE.is("that has gone", t.state(0, 2, 1, 0), 1);
    }

    /** "of all these (m of them, by numbers) number LOT m (also of one)" */
    private static void picks() {
        for (int m = 1; m <= 19; m++) {
            MadeTown t = Due.town("kind j has x = 0; end kind k has x = 9; has l = 0; rule give x 5 to pick j; add l lot 9999; end end");
            int me = m / 2;
            for (int i = 0; i <= m; i++) {
                t.one(i == me ? 1 : 0, 3, 1);
            }
            for (int seed = 0; seed < 8; seed++) {
                int number = t.lot(seed, me, 0, 0, m);
                int picked = number < me ? number : number + 1;
                DUE.is("picked of " + m, t.state(seed, 1, picked, 0), 5);
                DUE.is("the pick was a LOT, also of one", t.state(seed, 1, me, 1), t.lot(seed, me, 0, 1, 9999));
            }
        }
        // Of its own KIND: not itself; not those elsewhere.
        MadeTown t = Due.town("kind k has x = 0; has l = 0; rule if 0 < x give x 5 to pick k; add l lot 9999; end end");
        int[] places = {3, 2, 3, 3, 4, 3};
        for (int place : places) {
            t.one(0, place, 1);
        }
        int[][] others = {{2, 3, 5}, {}, {0, 3, 5}, {0, 2, 5}, {}, {0, 2, 3}};
        for (int me = 0; me < 6; me++) {
            t.begin(me, 0, 5);
            int m = others[me].length;
            for (int seed = 0; seed < 6; seed++) {
                if (m > 0) {
                    DUE.is("picked by " + me, t.state(seed, 1, others[me][t.lot(seed, me, 0, 0, m)], 0), 5);
                }
                DUE.is("what stays of " + me, t.state(seed, 1, me, 0), m > 0 ? 0 : 5);
                DUE.is("of none there is no LOT", t.state(seed, 1, me, 1), t.lot(seed, me, 0, m > 0 ? 1 : 0, 9999));
            }
            t.begin(me, 0, 0);
        }
    }

    /** "here", "sum", "all": with COPIES, itself too, by PLACE. */
    private static void counts() {
        String text = "kind k has v = 10; has h = 0; has s = 0; has o = 0; has a = 0; has b = 0; rule if tick == 0 add h here; add s sum k v; "
                + "add o sum l w; add a all k; add b all l; end end kind l has u = 3; has w = 7; end kind m has w = 1; end";
        MadeTown t = Due.town(text);
        t.one(0, 9, 1);
        int[] alone = {1, 10, 0, 1, 0};
        for (int var = 1; var < 6; var++) {
            DUE.is("alone, VAR " + var, t.state(0, 1, 0, var), alone[var - 1]);
        }
        t = Due.town(text);
        t.one(0, 9, 99);
        t.one(1, 9, 50);
        t.one(2, 9, 8);
        t.one(1, 0, 3);
        t.one(0, 0, 2);
        t.one(1, 9, 1);
        t.begin(4, 0, -5);
        t.begin(5, 1, -9);
        int[][] due = {{99 + 50 + 8 + 1, 990, 350 - 9, 101, 54}, {2 + 3, -10, 21, 101, 54}};
        for (int i = 0; i < 2; i++) {
            for (int var = 1; var < 6; var++) {
                DUE.is("ONE " + 4 * i + ", VAR " + var, t.state(0, 1, 4 * i, var), due[i][var - 1]);
            }
        }
        // The most there can be: 20 ONES of 99 COPIES with 9999.
        t = Due.town("kind k has v = 9999; has s = 0; has h = 0; rule if tick == 0 add s sum k v / 1000 / 10; add h here + all k; end end");
        for (int i = 0; i < 20; i++) {
            t.one(0, 5, 99);
        }
        DUE.is("the largest sum", t.state(0, 1, 19, 1), 20 * 99 * 9999 / 1000 / 10);
        DUE.is("the largest here and all", t.state(0, 1, 19, 2), 2 * 1980);
        DUE.is("the largest FIGURE", t.figure(0, 0, 0, 0), 20 * 99 * 9999);
        t = Due.town("kind k has v = -9999; end");
        for (int i = 0; i < 20; i++) {
            t.one(0, 5, 99);
        }
        DUE.is("the least FIGURE", t.figure(0, 40, 0, 0), -20 * 99 * 9999);
    }

    /** Each VAR of each of five KINDS, at each end of the numbers that they have. */
    private static void countsOfVarsByTheirNumber() {
        StringBuilder text = new StringBuilder();
        for (char k = 'k'; k < 'p'; k++) {
            text.append("kind ").append(k).append(" has a = 1; has b = 2; has c = 3; has d = 4; has e = 5; has f = 6; ");
            text.append("rule add a sum o f - sum o f; add f sum k a + sum o e - f; add e f - d; add d c; end end ");
        }
        MadeTown t = Due.town(text.toString());
        t.one(4, 1, 2);
        t.one(3, 1, 1);
        t.one(0, 1, 3);
        t.one(4, 2, 5);
        int[][] due = {{1, 2, 3, 7, 7, 3 + 10}, {1, 2, 3, 7, 7, 3 + 10}, {1, 2, 3, 7, 7, 3 + 10}, {1, 2, 3, 7, 7, 25}};
        for (int one = 0; one < 4; one++) {
            for (int var = 0; var < 6; var++) {
                DUE.is("ONE " + one + ", VAR " + var, t.state(0, 1, one, var), due[one][var]);
            }
        }
    }

    /** "LOT n: a number 0 .. n - 1." */
    private static void lots() {
        MadeTown t = new MadeTown();
        for (int n : new int[] {1, 2, 3, 10}) {
            int[] dealt = new int[n];
            for (int seed = 0; seed < 100; seed++) {
                int lot = t.lot(seed, 3, 5, 2, n);
                DUE.is("0 .. n - 1", lot >= 0 && lot < n, true);
                dealt[Math.max(0, Math.min(n - 1, lot))]++;
            }
            for (int i = 0; i < n; i++) {
                DUE.is("each of them is dealt", dealt[i] > 0, true);
            }
        }
        t = Due.town("kind k has x = 0; rule add x lot 1 + lot 9999 * 0; add x lot 9999; end end");
        t.one(0, 0, 1);
        for (int seed : new int[] {0, 1, -1, MIN, MAX, 77}) {
            DUE.is("a LOT of 1 is one, too", t.state(seed, 1, 0, 0), t.lot(seed, 0, 0, 2, 9999));
        }
        // Many LOTS in one TICK: 241 of them, the last is number 240.
        t = Due.town("kind k has x = 0; rule add x 0 * (lot 2" + "+lot 2".repeat(149) + "); add x lot 9999; end end");
        t.one(0, 0, 1);
        t.one(0, 0, 1);
        DUE.is("the 151st LOT", t.state(5, 1, 1, 0), t.lot(5, 1, 0, 150, 9999));
    }

    private static void lotBehind(String rules, int which) {
        MadeTown t = Due.town("set z = 0; kind k has y = 50; has x = 0; " + rules + " rule add x lot 9999; end end kind l has y = 0; end");
        t.one(1, 3, 1);
        t.one(0, 3, 1);
        t.one(1, 3, 1);
        for (int seed = 0; seed < 3; seed++) {
            DUE.is("the LOT behind " + rules, t.state(seed, 1, 1, 1), t.lot(seed, 1, 0, which, 9999));
        }
    }

    /** "In and, or no more LITS are worked out than are needed .. A LOT that is not needed is none." */
    private static void lotsThatAreNeeded() {
        String yes = "lot 5 < 9";
        String no = "9 < lot 5";
        String[] and = {yes + " and " + yes, no + " and " + yes, yes + " and " + no, no + " and " + no};
        int[] ands = {2, 1, 2, 1};
        int[] ors = {1, 2, 1, 2};
        for (int i = 0; i < 4; i++) {
            lotBehind("rule if " + and[i] + " end", ands[i]);
            lotBehind("rule if " + and[i].replace(" and ", " or ") + " end", ors[i]);
            boolean both = i == 0;
            lotBehind("rule if " + and[i] + " or " + yes + " end", ands[i] + (both ? 0 : 1));
            lotBehind("rule if " + and[i] + " or " + yes + " and " + no + " end", ands[i] + (both ? 0 : 2));
            lotBehind("rule if " + yes + " or " + and[i] + " end", 1);
            lotBehind("rule if " + no + " or " + and[i] + " end", 1 + ands[i]);
            lotBehind("rule if " + and[i] + " and " + yes + " or " + no + " end", ands[i] + 1);
            lotBehind("rule if " + and[i] + " add y lot 5; go lot 5; end", ands[i] + (both ? 2 : 0));
            lotBehind("rule if not " + and[i] + " add y lot 5; end", new int[] {1, 3, 1, 2}[i]);
            lotBehind("rule if " + no + " or " + no + " or " + and[i] + " add y lot 5; end", 2 + ands[i] + (both ? 1 : 0));
        }
        // "of a LIT both E's, of an E all"
        lotBehind("rule if 1 / z < lot 5 end", 1);
        lotBehind("rule if lot 5 / z < lot 5 + lot 5 end", 3);
        lotBehind("rule add y 1 / z * lot 5 + lot 5; end", 2);
        lotBehind("rule add y 0 * lot 5; end", 1);
        lotBehind("rule go 1 / z + lot 5; end", 1);
        lotBehind("rule give y lot 5 - 9 to near l; end", 1);
        lotBehind("rule give y lot 5 / z to pick l; end", 2);
        lotBehind("rule give y 3 to pick l; give y 3 to pick l; end", 2);
        lotBehind("rule give y 3 to pick k; end", 0);
        lotBehind("rule quit; end", 0);
    }

    /** "which of its LOTS in this TICK it is (0, 1, ..": anew for each ONE and in each TICK. */
    private static void lotsOfEachTick() {
        for (int one : new int[] {0, 1, 10, 19}) {
            MadeTown t = Due.town("kind k has x = 0; rule add x lot 9 - x; end rule if lot 2 == 0 go lot 3; end end");
            for (int i = 0; i < 20; i++) {
                t.one(0, i % 10, 1);
            }
            int place = one % 10;
            for (int tick = 0; tick < 40; tick++) {
                boolean goes = t.lot(-3, one, tick, 1, 2) == 0;
                place = (place + (goes ? t.lot(-3, one, tick, 2, 3) : 0)) % 10;
                DUE.is("LOT 0 of ONE " + one + " in TICK " + tick, t.state(-3, tick + 1, one, 0), t.lot(-3, one, tick, 0, 9));
                DUE.is("WISHES by LOT 1", t.wishes(-3, tick, one), goes ? 2 : 1);
                DUE.is("PLACE by LOT 2", t.at(-3, tick + 1, one), place);
            }
        }
    }

    /** "(dealt) by LOTS: LOT 1000 of each ONE with which 1000, the least first" */
    private static void theOrder() {
        // Each gives all it has to the least of the others: who comes when tells who has what in the end.
        for (int n = 2; n <= 20; n += n < 6 ? 1 : 7) {
            MadeTown t = Due.town("kind k has x = 1; rule give x 9999 to near k; end end");
            for (int i = 0; i < n; i++) {
                t.one(0, 3, 1);
                t.begin(i, 0, 1 + i);
            }
            for (boolean dealt : new boolean[] {true, false}) {
                t.order(dealt);
                for (int seed = 0; seed < 6; seed++) {
                    int[] due = given(t, seed, n, dealt, 2);
                    for (int i = 0; i < n; i += 1 + n / 6) {
                        DUE.is("dealt " + dealt + " of " + n + ", seed " + seed, t.state(seed, 2, i, 0), due[i]);
                    }
                }
            }
        }
    }

    private static int[] given(MadeTown t, int seed, int n, boolean dealt, int ticks) {
        int[] x = new int[n];
        for (int i = 0; i < n; i++) {
            x[i] = 1 + i;
        }
        for (int tick = 0; tick < ticks; tick++) {
            for (int lot = 0; lot < 1000; lot++) {
                for (int i = 0; i < n; i++) {
                    int own = dealt ? t.lot(seed, i, tick, 1000, 1000) : 0;
                    if (own == lot) {
                        int to = i == 0 ? 1 : 0;
                        x[to] += x[i];
                        x[i] = 0;
                    }
                }
            }
        }
        return x;
    }

    /** "of alike ones the least number" */
    private static void theOrderOfAlikeLots() {
        MadeTown lots = new MadeTown();
        int found = 0;
        for (int seed = 0; seed < 100000 && found < 3; seed++) {
            int a = lots.lot(seed, 0, 0, 1000, 1000);
            int b = lots.lot(seed, 1, 0, 1000, 1000);
            int c = lots.lot(seed, 2, 0, 1000, 1000);
            boolean wanted = found == 0 ? a == b && c < a : found == 1 ? b == c && a > b : a == c && b < a;
            if (!wanted) {
                continue;
            }
            found++;
            MadeTown t = Due.town("kind k has x = 1; rule give x 9999 to near k; end end");
            for (int i = 0; i < 3; i++) {
                t.one(0, 3, 1);
                t.begin(i, 0, 1 + i);
            }
            t.order(true);
            int[] due = given(t, seed, 3, true, 1);
            for (int i = 0; i < 3; i++) {
                DUE.is("alike LOTS, seed " + seed, t.state(seed, 1, i, 0), due[i]);
            }
        }
        DUE.is("alike LOTS of each pair were found", found, 3);
    }

    /** "Ints of 32 bits that wrap" */
    private static void wraps() {
        holds(MOST + " + 1 == " + LEAST, true);
        holds(LEAST + " - 1 == " + MOST, true);
        holds(MOST + " * 2 == 0 - 2", true);
        holds(LEAST + " * 2 == 0", true);
        holds("0 - " + LEAST + " == " + LEAST, true);
        holds(LEAST + " * (0 - 1) == " + LEAST, true);
        holds(LEAST + " / (0 - 1) == " + LEAST, true);
        holds("8192 * 8192 * 64 == 0", true);
        holds("9999 * 9999 * 9999 == " + e(9999 * 9999 * 9999), true);
        holds("9999 * 9999 * 9999 < 0", 9999 * 9999 * 9999 < 0);
        // 2^26 * 32 is 2^31, which wraps to the least number there is.
        holds("8192 * 8192 * 32 == " + LEAST, true);
        holds(MOST + " < " + LEAST, false);
        holds(LEAST + " < " + MOST, true);
        holds(MOST + " <= " + LEAST, false);
        holds(LEAST + " <= " + LEAST, true);
        holds(LEAST + " < " + LEAST, false);
        // Numbers more than 2^31 apart.
        holds("0 - 2 < " + MOST, true);
        holds(MOST + " < 0 - 2", false);
        holds(LEAST + " <= 1", true);
        holds("1 <= " + LEAST, false);
        holds(LEAST + " != " + MOST, true);
        holds(MOST + " == " + MOST, true);
        // 2^31 - 1, one less, one more.
        holds("0 < " + MOST, true);
        holds("0 < " + MOST + " - 1 + 1", true);
        holds("0 < " + MOST + " + 1", false);
    }

    /** "/ is rounded towards 0" */
    private static void divisions() {
        int[] as = {0, 1, -1, 2, -2, 6, -6, 7, -7, 8, -8, 9999, -9999, MAX, MIN};
        int[] bs = {1, -1, 2, -2, 3, -3, 7, -7, 9999, -9999, MAX, MIN};
        for (int a : as) {
            for (int b : bs) {
                long q = Math.abs((long) a) / Math.abs((long) b);
                int due = (int) (a < 0 == b < 0 ? q : -q);
                holds(e(a) + " / " + e(b) + " == " + e(due), true);
                holds(e(a) + " / " + e(b) + " < " + e(due), false);
            }
        }
        holds("7 / 2 * 2 == 6", true);
        holds("7 * 2 / 2 == 7", true);
        holds("1 - 7 / 2 == 0 - 2", true);
        holds("100 / 10 / 5 == 2", true);
        holds("100 / (10 / 5) == 50", true);
        holds("10 - 4 - 3 == 3", true);
        holds("10 - (4 - 3) == 9", true);
        holds("2 + 3 * 4 == 14", true);
        holds("(2 + 3) * 4 == 20", true);
        holds("20 - 12 / 4 + 1 == 18", true);
    }

    private static void x(String rule, int due) {
        MadeTown t = Due.town("set z = 0; kind k has x = 50; rule " + rule + " end end kind l has x = 1; end");
        t.one(0, 3, 1);
        t.one(1, 3, 1);
        DUE.is("x behind " + rule, t.state(0, 1, 0, 0), due);
    }

    /** "an E in which there is a division by 0 is 0 as a whole, a LIT with one does not hold (its not does)" */
    private static void divisionsBy0() {
        x("add x 1 / z;", 50);
        x("add x 7 + 1 / z;", 50);
        x("add x 1 / z + 7;", 50);
        x("add x (1 / z) * 0 + 7;", 50);
        x("add x 7 + 3 * (2 - ((1) / (z)));", 50);
        x("add x ((((((1 / z)))))) + 7;", 50);
        x("add x 0 / z;", 50);
        x("add x z / z;", 50);
        x("add x 1 / z / z;", 50);
        x("add x 1 / (1 / z);", 50);
        x("add x 1 / (z / 1) + 7;", 50);
        x("add x 1 / (3 - 2 - 1) + 7;", 50);
        x("add x 1 / (8192 * 8192 * 64) + 7;", 50);
        x("add x z / 1 + 7;", 57);
        x("add x z * 1 / 1 + 7;", 57);
        x("add x 1 / 2 + 7;", 57);
        x("add x 1 / z + 7; add x 7;", 57);
        x("add x 7; add x 1 / z + 7;", 57);
        x("give x 1 / z + 7 to near l;", 50);
        x("give x 7 to near l; give x 1 / z + 7 to pick l;", 43);
        MadeTown t = Due.town("set z = 0; kind k rule go 1 / z + 7; end rule go 1; end end");
        t.one(0, 3, 1);
        DUE.is("go 0", t.at(0, 1, 0), 4);
        for (String test : new String[] {"==", "!=", "<", "<="}) {
            String[] lits = {"1 / z " + test + " 0", "0 " + test + " 1 / z", "1 / z " + test + " 1 / z", "1 / z + 5 " + test + " 5",
                "(2 + 1 / z) * 0 " + test + " 1", "0 / z " + test + " z"};
            for (String lit : lits) {
                holds(lit, false);
                holds("not " + lit, true);
                holds("not not " + lit, false);
                holds("not not not " + lit, true);
                holds(lit + " or 1 == 1", true);
                holds(lit + " and 1 == 1", false);
                holds("not " + lit + " and 1 == 1", true);
                holds("1 == 2 or not " + lit, true);
                // The next LIT is one without.
                holds(lit + " or 1 != 1", false);
                holds("not " + lit + " and 1 != 1", false);
            }
        }
        holds("not 1 == 1", false);
        holds("not not 1 == 1", true);
        holds("not not not 1 == 1", false);
        holds("not 1 == 2 and not 1 == 2", true);
        // A LIT with a division by 0 spoils no WISH.
        x("if not 1 / z == 1 add x 7;", 57);
        x("if 1 / z == 1 or 1 == 1 add x 7;", 57);
    }

    /** Six brackets, with two values waiting on each level, on both sides of a LIT. */
    private static void deepestE() {
        String six = "1+2*(1+2*(1+2*(1+2*(1+2*(1+2*(1+2*3))))))";
        int due = 3;
        for (int i = 0; i < 7; i++) {
            due = 1 + 2 * due;
        }
        DUE.is("by hand", due, 511);
        holds(six + " == 511", true);
        holds("511 == " + six, true);
        holds(six + " == " + six, true);
        holds(six + " < " + six + " + 1", true);
        holds("1 - 2 * (1 - 2 * (1 - 2 * (1 - 2 * (1 - 2 * (1 - 2 * (1 - 2 * 3)))))) == " + minus(7), true);
        x("add x " + six + ";", 561);
        x("give x " + six + " - 500 to near l;", 39);
        MadeTown t = Due.town("kind k rule go " + six + "; end end");
        t.one(0, 0, 1);
        DUE.is("go by it", t.at(0, 1, 0), 1);
    }

    private static String minus(int levels) {
        int v = 3;
        for (int i = 0; i < levels; i++) {
            v = 1 - 2 * v;
        }
        return e(v);
    }

    /** "After each TICK each VAR is held to -9999 .. 9999." */
    private static void held() {
        for (int by : new int[] {1, 2, 3}) {
            for (int begin : new int[] {9996, 9997, 9998, 9999, -9996, -9997, -9998, -9999}) {
                int step = begin < 0 ? -by : by;
                MadeTown t = Due.town("kind j has a = 0; has x = 0; rule add x " + e(step) + "; end end");
                t.one(0, 0, 1);
                t.begin(0, 1, begin);
                for (int ticks = 1; ticks <= 3; ticks++) {
                    DUE.is(begin + " by " + step + " behind " + ticks, t.state(0, ticks, 0, 1), held(begin + ticks * step));
                }
            }
        }
        // Not within a TICK; and each VAR of each ONE, as many as there can be.
        MadeTown t = Due.town("kind k has a = 9999; has b = 0; has c = 0; has d = 9000; has e = -9000; has f = 9999; "
                + "rule add a 5; add d 1000; add e 0 - 1000; add f 1; end rule if tick == 0 add a 0 - 7; end "
                + "rule if tick == 1 quit; end end");
        for (int i = 0; i < 20; i++) {
            t.one(0, i % 10, 1);
        }
        for (int one = 0; one < 20; one++) {
            DUE.is("not within the TICK", t.state(0, 1, one, 0), 9997);
            DUE.is("the last VAR behind it", t.state(0, 1, one, 5), 9999);
            DUE.is("of one that has quit in this TICK, too", t.state(0, 2, one, 0), 9999);
            DUE.is("and stays", t.state(0, 40, one, 3), 9999);
            DUE.is("and stays", t.state(0, 40, one, 4), -9999);
        }
        MadeTown low = Due.town("kind k has x = -9999; rule add x 0 - 5; end rule if tick == 0 add x 7; end end");
        low.one(0, 0, 1);
        DUE.is("not within the TICK", low.state(0, 1, 0, 0), -9997);
        DUE.is("held behind it", low.state(0, 2, 0, 0), -9999);
        DUE.is("from there on", low.state(0, 40, 0, 0), -9999);
        // One to whom is given is held, too, and what is above that is gone.
        MadeTown given = Due.town("kind k has x = 9; rule give x 5 to near l; end end kind l has x = 9998; rule if tick == 1 give x 9999 to near k; end end");
        given.one(0, 0, 1);
        given.one(1, 0, 1);
        DUE.is("held", given.state(0, 1, 1, 0), 9999);
        DUE.is("what is above is gone", given.state(0, 2, 1, 0), 4);
    }

    /** "A RUN has .. TICKS 0 .. t - 1": tick is the number of the TICK. */
    private static void ticksOfARun() {
        MadeTown t = Due.town("kind k has x = 0; has y = -1; rule add x tick; add y tick - y; end end");
        t.one(0, 0, 1);
        for (int ticks = 0; ticks <= 40; ticks++) {
            DUE.is("TICKS 0 .. " + (ticks - 1), t.state(0, ticks, 0, 0), ticks * (ticks - 1) / 2);
            DUE.is("the last of them", t.state(0, ticks, 0, 1), ticks - 1);
        }
        // Each RUN begins anew, in whatever order they are asked.
        for (int ticks : new int[] {40, 0, 39, 1, 5}) {
            DUE.is("anew", t.state(0, ticks, 0, 1), ticks - 1);
        }
    }
}
