/** Terms III, sentence by sentence: UNDONE, CHANGED, CAUSES, SHARE, SEEN, SPANS, THE GRID, UNTOLD, WOULD, PLANS. */
public final class BoundsOfRunsTest {
    private static final Due DUE = new Due();
    private static final int MIN = Integer.MIN_VALUE;
    private static final int MAX = Integer.MAX_VALUE;
    private static final String THREE = "set a = 0; set b = 0; set c = 0; ";

    public static void main(String[] args) {
        figures();
        settingsAsTheyAreNow();
        undoneInOneTick();
        changedByEach();
        changedUpTo();
        changedBehindSomeTick();
        changedOnes();
        causesOfOneSetting();
        sharesOverAllOrders();
        sharesTogether();
        seenOfEachKindAndVar();
        seenAllOfThem();
        seedsOfMeets();
        theGridTurns();
        pointsOfTheGrid();
        gridOfSettingsThatAreSet();
        untold();
        wouldWithoutThat();
        wouldTheLeastAndTheMost();
        wouldAtHowMany();
        wouldOfASpansSetting();
        plans();
        DUE.end();
    }

    /** "of all ONES of a KIND, quit or not, a VAR times COPIES, together, behind t TICKS" */
    private static void figures() {
        MadeTown t = Due.town("kind j has x = 1000; end kind k has w = 5; has x = 1; rule add x 1; end rule if x == 3 quit; end end");
        t.one(1, 0, 2);
        t.one(0, 0, 7);
        t.one(1, 5, 30);
        t.one(1, 9, 99);
        t.begin(2, 1, -50);
        t.begin(3, 1, 3);
        int[] due = {2 - 1500 + 297, 4 - 1470 + 396, 6 - 1440 + 396, 8 - 1410 + 396, 8 - 1380 + 396};
        for (int ticks = 0; ticks < 5; ticks++) {
            DUE.is("behind " + ticks, t.figure(0, ticks, 1, 1), due[ticks]);
            DUE.is("of a VAR that stays", t.figure(0, ticks, 1, 0), 5 * 131);
            DUE.is("of the other KIND", t.figure(0, ticks, 0, 0), 7000);
        }
    }

    /** "SETTINGS (as they are now, but where another number is told)" */
    private static void settingsAsTheyAreNow() {
        MadeTown t = Due.town("set a = 1; set b = 2; set c = 3; set d = 4; set e = 5; set f = 6; kind k has x = 0; "
                + "rule add x a; add x 2 * b; add x 4 * c; add x 8 * d; add x 16 * e; add x 32 * f; end end");
        t.one(0, 0, 1);
        int now = 1 + 4 + 12 + 32 + 80 + 192;
        DUE.is("as told", t.state(0, 1, 0, 0), now);
        for (int k = 0; k < 6; k++) {
            t.set(k, -10 * k);
            now += (1 << k) * (-10 * k - (k + 1));
            DUE.is("SETTING " + k + " as it is now", t.state(0, 1, 0, 0), Math.max(-9999, now));
        }
        t.cause(5, 0);
        DUE.is("where another number is told", t.share(0, 0, 1, 0, 0), 50 * 32);
        DUE.is("the SETTING stays", t.setting(5), -50);
        DUE.is("and its RUNS", t.state(0, 1, 0, 0), now);
    }

    /** "the RUN with one ONE's WISHES of one TICK left out" - of no other ONE, of no other TICK. */
    private static void undoneInOneTick() {
        MadeTown t = Due.town("kind k has x = 0; rule add x 2; give x 1 to near l; end end kind l has x = 0; end kind m has x = 0; rule add x 1; end end");
        t.one(0, 0, 1);
        t.one(1, 0, 1);
        t.one(2, 0, 1);
        t.one(0, 1, 1);
        for (int tick = 0; tick < 40; tick++) {
            DUE.is("0 and 1 by TICK " + tick, t.changed(0, 40, 0, tick), 0b0011);
            DUE.is("1 wishes nothing", t.changed(0, 40, 1, tick), 0);
            DUE.is("2 itself", t.changed(0, 40, 2, tick), 0b0100);
            DUE.is("3 itself", t.changed(0, 40, 3, tick), 0b1000);
            DUE.is("first of 1", t.first(0, 40, 0, tick, 1), tick);
        }
    }

    /** "ONES of which a VAR, the PLACE, or whether it has quit, is not the same": each of these alone. */
    private static void changedByEach() {
        for (int var = 0; var < 6; var++) {
            String v = "abcdef".substring(var, var + 1);
            MadeTown t = Due.town("kind k has a = 1; has b = 1; has c = 1; has d = 1; secret e = 1; has f = 1; rule if tick == 1 add " + v + " 1; end end");
            for (int i = 0; i < 20; i++) {
                t.one(0, 0, 1);
            }
            for (int one : new int[] {0, 10, 19}) {
                DUE.is("VAR " + v, t.changed(0, 2, one, 1), 1 << one);
                DUE.is("no VAR", t.changed(0, 2, one, 0), 0);
            }
        }
        MadeTown place = Due.town("kind k rule if tick == 1 go 1; end end");
        place.one(0, 9, 1);
        DUE.is("the PLACE", place.changed(0, 2, 0, 1), 1);
        DUE.is("not by another TICK", place.changed(0, 40, 0, 0), 0);
        MadeTown quit = Due.town("kind k rule if tick == 1 quit; end end");
        quit.one(0, 9, 1);
        DUE.is("whether it has quit", quit.changed(0, 2, 0, 1), 1);
        DUE.is("not by another TICK", quit.changed(0, 40, 0, 2), 0);
        MadeTown same = Due.town("kind k has x = 9999; rule add x 5; go 10; give x 5 to near k; end end");
        same.one(0, 9, 1);
        DUE.is("WISHES that do nothing", same.changed(0, 40, 0, 3), 0);
        DUE.is("first: none", same.first(0, 40, 0, 3, 0), -2);
    }

    /** "behind some TICK (up to t)" */
    private static void changedUpTo() {
        // What 0 gives in TICK 0 is handed on by one ONE a TICK: ONE i has it behind TICK i - 1 or later.
        StringBuilder text = new StringBuilder();
        for (char k = 'k'; k < 'p'; k++) {
            text.append("kind ").append(k).append(" has x = 0; ");
            if (k < 'o') {
                text.append("rule if 0 < x give x 9 to near ").append((char) (k + 1)).append("; end ");
            }
            text.append("end ");
        }
        MadeTown t = Due.town(text.toString());
        for (int i = 0; i < 5; i++) {
            t.one(i, 3, 1);
        }
        t.begin(0, 0, 1);
        for (int up = 1; up <= 7; up++) {
            int bits = 1;
            for (int i = 1; i < 5; i++) {
                bits |= up >= i ? 1 << i : 0;
            }
            DUE.is("up to " + up, t.changed(0, up, 0, 0), bits);
            for (int i = 0; i < 5; i++) {
                int first = Math.max(0, i - 1);
                DUE.is("first of " + i + " up to " + up, t.first(0, up, 0, 0, i), first < up ? first : -2);
            }
        }
        DUE.is("that is not there yet", t.changed(0, 3, 2, 1), 0);
        DUE.is("that is there", t.changed(0, 3, 2, 2), 0b01100);
        DUE.is("that has gone on", t.changed(0, 40, 2, 3), 0);
    }

    /** "is not the same behind some TICK": also if it is the same again behind the last one. */
    private static void changedBehindSomeTick() {
        MadeTown t = Due.town("kind k has x = 0; rule if x < 1 add x 1; end end kind p rule if place == 0 go 1; end end");
        t.one(0, 0, 1);
        t.one(1, 0, 1);
        for (int up : new int[] {1, 2, 40}) {
            DUE.is("x behind TICK 0 alone, up to " + up, t.changed(0, up, 0, 0), 1);
            DUE.is("first", t.first(0, up, 0, 0, 0), 0);
            DUE.is("the PLACE behind TICK 0 alone, up to " + up, t.changed(0, up, 1, 0), 2);
            DUE.is("first", t.first(0, up, 1, 0, 1), 0);
        }
        MadeTown later = Due.town("kind k has x = 0; rule if tick == 5 and x == 0 add x 1; end rule if tick == 9 add x 0 - x; end end");
        later.one(0, 0, 1);
        DUE.is("5 .. 8 are unlike", later.changed(0, 40, 0, 5), 1);
        DUE.is("first of these", later.first(0, 40, 0, 5, 0), 5);
        DUE.is("up to 5: not there", later.changed(0, 5, 0, 5), -1);
        DUE.is("up to 6", later.changed(0, 6, 0, 5), 1);
        DUE.is("9 and all behind it", later.first(0, 40, 0, 9, 0), 9);
    }

    /** Bits of all 20 ONES. */
    private static void changedOnes() {
        MadeTown t = Due.town("kind g has x = 9; rule if tick == 0 go 1; end end kind k has h = 0; rule add h here; end end");
        t.one(0, 0, 1);
        for (int i = 1; i < 20; i++) {
            t.one(1, i % 2, 1);
        }
        DUE.is("itself", t.changed(0, 1, 0, 0), 1);
        DUE.is("all who are at these two PLACES", t.changed(0, 2, 0, 0), (1 << 20) - 1);
        for (int i = 1; i < 20; i++) {
            DUE.is("first of " + i, t.first(0, 2, 0, 0, i), 1);
            DUE.is("none up to 1", t.first(0, 1, 0, 0, i), -2);
        }
    }

    /** "of two of one SETTING the one with the higher number counts, in whatever order" */
    private static void causesOfOneSetting() {
        int[][] numbers = {{5, 9}, {9, 5}, {0, 9}, {9, 0}, {-7, -3}, {-3, -7}, {9, 9}};
        for (int[] n : numbers) {
            MadeTown t = Due.town("set a = 0; kind k has x = 0; rule add x a; end end");
            t.one(0, 0, 1);
            t.cause(0, n[0]);
            t.cause(0, n[1]);
            // Orders 0 1 and 1 0: whenever CAUSE 1 is there, its number counts.
            DUE.is("CAUSE 0 of " + n[0] + " " + n[1], t.share(0, 0, 1, 0, 0), n[0]);
            DUE.is("CAUSE 1 of " + n[0] + " " + n[1], t.share(1, 0, 1, 0, 0), n[1] - n[0] + n[1]);
        }
        MadeTown four = Due.town("set a = 1; kind k has x = 0; rule add x a; end end");
        four.one(0, 0, 1);
        int[] numbersOfFour = {10, 200, 3000, 4};
        for (int v : numbersOfFour) {
            four.cause(0, v);
        }
        for (int i = 0; i < 4; i++) {
            DUE.is("CAUSE " + i + " of four", four.share(i, 0, 1, 0, 0), sharesOfOneSetting(i, numbersOfFour, 1));
        }
        DUE.is("the first adds its 9 in the 6 of 24 orders where it is the first", four.share(0, 0, 1, 0, 0), 6 * 9);
    }

    /** Order by order: what a CAUSE adds when all are of one SETTING, whose number is the FIGURE. */
    private static long sharesOfOneSetting(int cause, int[] numbers, int begun) {
        long sum = 0;
        for (int code = 0; code < 256; code++) {
            int[] order = {code & 3, code >> 2 & 3, code >> 4 & 3, code >> 6 & 3};
            int set = 1 << order[0] | 1 << order[1] | 1 << order[2] | 1 << order[3];
            if (set != 15) {
                continue;
            }
            int highest = -1;
            for (int c : order) {
                int before = highest < 0 ? begun : numbers[highest];
                highest = Math.max(highest, c);
                if (c == cause) {
                    sum += numbers[highest] - before;
                    break;
                }
            }
        }
        return sum;
    }

    /** "over all orders of all CAUSES .. by the number of orders (as it is: not shortened)" */
    private static void sharesOverAllOrders() {
        int[] orders = {1, 2, 6, 24};
        for (int n = 1; n <= 4; n++) {
            MadeTown t = Due.town("set a = 0; set b = 0; set c = 0; set d = 0; kind k has x = 0; rule add x a + b + c + d; end end");
            t.one(0, 0, 3);
            for (int i = 0; i < n; i++) {
                t.cause(i, 10 + i);
            }
            for (int i = 0; i < n; i++) {
                DUE.is("CAUSE " + i + " of " + n + " adds alike in all orders", t.share(i, 0, 1, 0, 0), orders[n - 1] * 3 * (10 + i));
            }
        }
        // Only all four together do anything: each adds all when it comes last, in 6 orders.
        MadeTown t = Due.town("set a = 0; set b = 0; set c = 0; set d = 0; kind k has x = 0; rule add x a * b * c * d; end end");
        t.one(0, 0, 2);
        for (int i = 0; i < 4; i++) {
            t.cause(i, 3 + i);
        }
        for (int i = 0; i < 4; i++) {
            DUE.is("last in 6 of 24", t.share(i, 0, 1, 0, 0), 6L * 2 * 360);
        }
        // Any one does it: each adds all when it comes first, in 6 orders.
        t = Due.town("set a = 0; set b = 0; set c = 0; set d = 0; kind k has x = 0; rule if not a + b + c + d == 0 add x 0 - 9; end end");
        t.one(0, 0, 2);
        for (int i = 0; i < 4; i++) {
            t.cause(i, 3 + i);
        }
        for (int i = 0; i < 4; i++) {
            DUE.is("first in 6 of 24", t.share(i, 0, 1, 0, 0), -6L * 18);
        }
        // Second or third in its order: 6 orders each; a and b alone are nothing without one another.
        t = Due.town("set a = 0; set b = 0; set c = 0; kind k has x = 0; rule add x a * b * (1 - c); end end");
        t.one(0, 0, 1);
        t.cause(0, 10);
        t.cause(1, 10);
        t.cause(2, 1);
        // Orders of a, b, c: abc acb bac bca cab cba. c takes away 100 where a and b are ahead of it.
        DUE.is("a: in bac alone", t.share(0, 0, 1, 0, 0), 100);
        DUE.is("b: in abc alone", t.share(1, 0, 1, 0, 0), 100);
        DUE.is("c: in abc, bac", t.share(2, 0, 1, 0, 0), -200);
    }

    /** All SHARES together are what all CAUSES add, times the number of orders; large ones do not wrap. */
    private static void sharesTogether() {
        int[] orders = {1, 1, 2, 6, 24};
        for (int n = 1; n <= 4; n++) {
            MadeTown t = Due.town("set a = 2; set b = 7; kind k has x = 5; rule add x a * x / (b - 3) + lot 9 - sum k x / 20; end rule if lot 5 < a go b; end end");
            for (int i = 0; i < 6; i++) {
                t.one(0, i % 2, 1 + i);
            }
            int[][] causes = {{0, 3}, {1, 11}, {0, 6}, {1, 2}};
            for (int i = 0; i < n; i++) {
                t.cause(causes[i][0], causes[i][1]);
            }
            for (int seed = 0; seed < 4; seed++) {
                long sum = 0;
                for (int i = 0; i < n; i++) {
                    sum += t.share(i, seed, 6, 0, 0);
                }
                int without = t.figure(seed, 6, 0, 0);
                for (int i = 0; i < n; i++) {
                    t.set(causes[i][0], causes[i][1]);
                }
                int with = t.figure(seed, 6, 0, 0);
                t.set(0, 2);
                t.set(1, 7);
                DUE.is("together, " + n + " CAUSES", sum, (long) orders[n] * (with - without));
            }
        }
        MadeTown large = Due.town("set a = 0; kind k has x = -9999; rule if 0 < a add x 9999 * 2; end end");
        for (int i = 0; i < 20; i++) {
            large.one(0, 0, 99);
        }
        large.cause(0, 1);
        DUE.is("all there can be, by one", large.share(0, 0, 1, 0, 0), 2L * 9999 * 1980);
        large.clear();
        large.cause(0, 0);
        large.cause(0, 0);
        large.cause(0, 0);
        large.cause(0, 1);
        DUE.is("by the last of four: in all orders", large.share(3, 0, 1, 0, 0), 24L * 2 * 9999 * 1980);
        DUE.is("by the first: nothing", large.share(0, 0, 1, 0, 0), 0);
    }

    /** "a FIGURE (KIND, VAR, t) lies between low and high": of each KIND, VAR, t its own. */
    private static void seenOfEachKindAndVar() {
        for (int kind = 0; kind < 3; kind++) {
            for (int var = 0; var < 3; var++) {
                for (int ticks : new int[] {0, 1, 3}) {
                    MadeTown t = Due.town("kind k has a = 1; has b = 2; has c = 3; rule add a 10; add b 20; add c 30; end end "
                            + "kind l has a = 4; has b = 5; has c = 6; rule add a 40; add b 50; add c 60; end end "
                            + "kind m has a = 7; has b = 8; has c = 9; rule add a 70; add b 80; add c 90; end end");
                    t.one(0, 0, 1);
                    t.one(1, 0, 1);
                    t.one(2, 0, 1);
                    int figure = (1 + 3 * kind + var) * (1 + 10 * ticks);
                    t.seen(ticks, kind, var, figure, figure);
                    DUE.is("is so", t.meets(1), 1);
                    t.begin(kind, var, 0);
                    DUE.is("is not so", t.meets(1), 0);
                }
            }
        }
    }

    /** "if with it each SEEN is so": all of eight, whichever is not. */
    private static void seenAllOfThem() {
        for (int bad = -1; bad < 8; bad++) {
            MadeTown t = Due.town("set a = 0; kind k has x = 0; rule add x a; end end");
            t.one(0, 0, 1);
            t.span(0, 1, 9, 1);
            for (int i = 0; i < 8; i++) {
                // In whatever order their TICKS are.
                int ticks = i * 3 % 8;
                int figure = 4 * ticks + (i == bad ? 1 : 0);
                t.seen(ticks, 0, 0, figure, figure);
            }
            DUE.is("4 alone, but for SEEN " + bad, t.meets(2), bad < 0 ? 1 : 0);
            DUE.is("it is 4", t.met(2, 0, 0), bad < 0 ? 4 : -1000000);
        }
    }

    /** "for each SEED 0 .. s - 1 (s 1 .. 3)" */
    private static void seedsOfMeets() {
        MadeTown lots = new MadeTown();
        for (int allowed = 0; allowed < 10; allowed++) {
            MadeTown t = Due.town("kind k has x = 0; rule add x lot 10; end end");
            t.one(0, 0, 1);
            t.seen(1, 0, 0, 0, allowed);
            boolean meets = true;
            for (int s = 1; s <= 3; s++) {
                meets &= lots.lot(s - 1, 0, 0, 0, 10) <= allowed;
                DUE.is("by " + s + " SEEDS up to " + allowed, t.meets(s), meets ? 1 : 0);
            }
            // Asked the other way round it is the same.
            for (int s = 3; s >= 1; s--) {
                int told = t.meets(s);
                t.begin(0, 0, 0);
                DUE.is("asked anew by " + s, t.meets(s), told);
            }
        }
    }

    /** "the first SPAN's turns slowest" */
    private static void theGridTurns() {
        int[][] spans = {{2, 5, 9, 2}, {0, -1, 1, 1}, {1, 100, 300, 200}};
        for (int first = 0; first < 3; first++) {
            MadeTown t = Due.town(THREE + "kind k has x = 0; end");
            int[][] mine = {spans[first], spans[(first + 1) % 3], spans[(first + 2) % 3]};
            for (int[] n : mine) {
                t.span(n[0], n[1], n[2], n[3]);
            }
            int i = 0;
            for (int a = mine[0][1]; a <= mine[0][2]; a += mine[0][3]) {
                for (int b = mine[1][1]; b <= mine[1][2]; b += mine[1][3]) {
                    for (int c = mine[2][1]; c <= mine[2][2]; c += mine[2][3]) {
                        DUE.is("slowest at " + i, t.met(1, i, 0), a);
                        DUE.is("then at " + i, t.met(1, i, 1), b);
                        DUE.is("quickest at " + i, t.met(1, i, 2), c);
                        i++;
                    }
                }
            }
            DUE.is("no more", t.met(1, i, 0), -1000000);
            DUE.is("so many", t.meets(1), i);
        }
    }

    /** "all numbers of the SPANS": each point's RUN has its own numbers, and those that MEET are told in their order. */
    private static void pointsOfTheGrid() {
        MadeTown t = Due.town(THREE + "kind k has x = 0; rule add x a * 100 + b * 10 + c; end end");
        t.one(0, 0, 1);
        t.span(1, 1, 5, 1);
        t.span(2, 0, 9, 3);
        t.span(0, 0, 9, 1);
        DUE.is("all", t.meets(1), 200);
        t.seen(1, 0, 0, 130, 230);
        int i = 0;
        for (int b = 1; b <= 5; b++) {
            for (int c = 0; c <= 9; c += 3) {
                for (int a = 0; a <= 9; a++) {
                    int x = a * 100 + b * 10 + c;
                    if (x >= 130 && x <= 230) {
                        DUE.is("b at " + i, t.met(3, i, 0), b);
                        DUE.is("c at " + i, t.met(3, i, 1), c);
                        DUE.is("a at " + i, t.met(3, i, 2), a);
                        i++;
                    }
                }
            }
        }
        DUE.is("so many", t.meets(3), i);
        DUE.is("no more", t.met(3, i, 2), -1000000);
    }

    /** "SETTINGS (as they are now, but where another number is told)": those without a SPAN are as they are set. */
    private static void gridOfSettingsThatAreSet() {
        MadeTown t = Due.town(THREE + "kind k has x = 0; rule add x a + b; end end");
        t.one(0, 0, 1);
        t.span(0, 1, 9, 1);
        t.seen(1, 0, 0, 5, 5);
        for (int b = -4; b <= 4; b++) {
            t.set(1, b);
            t.set(0, 77);
            DUE.is("a with b " + b, t.met(1, 0, 0), 5 - b);
            DUE.is("alone", t.meets(1), 1);
        }
        t.set(1, 5);
        DUE.is("none", t.meets(1), 0);
        t.cause(1, 0);
        DUE.is("a CAUSE is none of its numbers", t.meets(1), 0);
        DUE.is("a is set still", t.setting(0), 77);
    }

    /** "a SPAN with MEETING points at its first and at its last number" */
    private static void untold() {
        int[][] due = {{3, 3, 0}, {1, 1, 0}, {1, 4, 0}, {2, 4, 0}, {2, 5, 0}, {5, 5, 0}, {1, 5, 1}, {0, 9, 1}, {0, 1, 0}, {5, 9, 0}, {6, 9, 0}};
        for (int[] n : due) {
            for (int step = 1; step <= 4; step *= 2) {
                // 1 .. 5 by 1, by 2, by 4: its last number is 5 each time; up to 5 + step - 1 there is no further one.
                for (int more = 0; more < step; more++) {
                    MadeTown t = Due.town("set a = 0; kind k has x = 0; rule add x a; end end");
                    t.one(0, 0, 1);
                    t.span(0, 1, 5 + more, step);
                    t.seen(1, 0, 0, n[0], n[1]);
                    for (int s = 1; s <= 3; s++) {
                        DUE.is("1 .. " + (5 + more) + " by " + step + ", seen " + n[0] + " .. " + n[1], t.untold(s), n[2]);
                    }
                }
            }
        }
        // Of three SPANS: at different points, each by itself.
        int[][] ranges = {{MIN, MAX, 7}, {111, 222, 7}, {112, 222, 7}, {112, 221, 7}, {111, 111, 0}, {111, 112, 4}, {111, 121, 6}, {112, 121, 6}, {121, 211, 7},
            {122, 211, 7}, {212, 221, 6}, {112, 112, 0}, {223, 999, 0}, {221, 222, 4}};
        for (int[] n : ranges) {
            MadeTown three = Due.town(THREE + "kind k has x = 0; rule add x a * 100 + b * 10 + c; end end");
            three.one(0, 0, 1);
            three.span(0, 1, 2, 1);
            three.span(1, 1, 2, 1);
            three.span(2, 1, 2, 1);
            three.seen(1, 0, 0, n[0], n[1]);
            DUE.is("seen " + n[0] + " .. " + n[1], three.untold(2), n[2]);
        }
        DUE.is("without SPANS none", Due.town(THREE).untold(1), 0);
        // Of one number: it is the first and the last.
        MadeTown one = Due.town(THREE + "kind k has x = 1; end");
        one.span(2, 4, 4, 1);
        one.span(1, 4, 5, 1);
        DUE.is("of one number", one.untold(3), 3);
        one.seen(0, 0, 0, 1, 1);
        DUE.is("of one number, no point MEETS", one.untold(3), 0);
    }

    /** "over all points that MEET (without that)" */
    private static void wouldWithoutThat() {
        MadeTown t = Due.town(THREE + "kind k has x = 0; has y = 0; rule add x a + b; add y a * 10 + b; end end");
        t.one(0, 0, 1);
        t.span(0, 1, 9, 1);
        t.seen(1, 0, 0, 4, 6);
        // 4, 5, 6 MEET with b 0; with b 5 none of these would MEET, but 1 would.
        DUE.is("the least of 4, 5, 6", t.would(1, 1, 5, 1, 0, 1, 0), 45);
        DUE.is("the most of 4, 5, 6", t.would(1, 1, 5, 1, 0, 1, 1), 65);
        DUE.is("more at each", t.would(1, 1, 5, 1, 0, 1, 2), 3);
        DUE.is("the SETTING stays", t.setting(1), 0);
        DUE.is("the points stay", t.meets(1), 3);
        t.set(1, 5);
        DUE.is("with b 5 point 1 alone", t.would(1, 1, 0, 1, 0, 1, 0), 10);
        DUE.is("and the most", t.would(1, 1, 0, 1, 0, 1, 1), 10);
        DUE.is("less there", t.would(1, 1, 0, 1, 0, 1, 2), 0);
    }

    /** "the least, the most of a FIGURE" - below 0, 0, above, at whichever point. */
    private static void wouldTheLeastAndTheMost() {
        int[][] figures = {{1, 2, 3}, {3, 2, 1}, {2, 1, 3}, {2, 3, 1}, {-1, -2, -3}, {-2, -3, -1}, {0, 0, 0}, {0, -1, 0}, {-1, 0, 1},
            {9999, -9999, 0}, {-9999, -9999, 9999}};
        for (int[] f : figures) {
            MadeTown t = Due.town(THREE + "kind k has x = 0; rule if a == 1 add x b * " + sign(f[0]) + "; end rule if a == 2 add x b * " + sign(f[1])
                    + "; end rule if a == 3 add x b * " + sign(f[2]) + "; end end");
            t.one(0, 0, 99);
            t.span(0, 1, 3, 1);
            int least = Math.min(f[0], Math.min(f[1], f[2]));
            int most = Math.max(f[0], Math.max(f[1], f[2]));
            int more = (f[0] > 0 ? 1 : 0) + (f[1] > 0 ? 1 : 0) + (f[2] > 0 ? 1 : 0);
            for (int s = 1; s <= 3; s++) {
                DUE.is("the least", t.would(s, 1, 1, 1, 0, 0, 0), 99 * least);
                DUE.is("the most", t.would(s, 1, 1, 1, 0, 0, 1), 99 * most);
                DUE.is("at how many it is more", t.would(s, 1, 1, 1, 0, 0, 2), s * more);
            }
        }
    }

    private static String sign(int number) {
        return number < 0 ? "(0 - " + -number + ")" : "" + number;
    }

    /** "all SEEDS .. at how many of these it is more": each point with each SEED is one of them. */
    private static void wouldAtHowMany() {
        MadeTown t = Due.town(THREE + "kind k has x = 0; rule if lot 10 < a + b add x 1 + lot 5; end rule if a == 9 add x 50; end end");
        t.one(0, 0, 1);
        t.span(0, 0, 9, 1);
        t.seen(1, 0, 0, 0, 40);
        for (int s = 1; s <= 3; s++) {
            for (int b : new int[] {-3, 0, 1, 5}) {
                int more = 0;
                int least = MAX;
                int most = MIN;
                for (int a = 0; a < 9; a++) {
                    for (int seed = 0; seed < s; seed++) {
                        int lot = t.lot(seed, 0, 0, 0, 10);
                        int added = 1 + t.lot(seed, 0, 0, 1, 5);
                        int with = lot < a + b ? added : 0;
                        int without = lot < a ? added : 0;
                        more += with > without ? 1 : 0;
                        least = Math.min(least, with);
                        most = Math.max(most, with);
                    }
                }
                DUE.is("more with b " + b + " by " + s, t.would(s, 1, b, 1, 0, 0, 2), more);
                DUE.is("least with b " + b + " by " + s, t.would(s, 1, b, 1, 0, 0, 0), least);
                DUE.is("most with b " + b + " by " + s, t.would(s, 1, b, 1, 0, 0, 1), most);
            }
        }
    }

    /** "with one more SETTING told a number", though it is one of a SPAN: the number told last counts. */
    private static void wouldOfASpansSetting() {
        MadeTown t = Due.town(THREE + "kind k has x = 0; rule add x a * 10 + b; end end");
        t.one(0, 0, 1);
        t.span(0, 1, 4, 1);
        t.span(1, 0, 1, 1);
        t.seen(1, 0, 0, 20, 31);
        // 20, 21, 30, 31 MEET.
        DUE.is("the least with a 3", t.would(1, 0, 3, 1, 0, 0, 0), 30);
        DUE.is("the most with a 3", t.would(1, 0, 3, 1, 0, 0, 1), 31);
        DUE.is("more than with a 2, not than with a 3", t.would(1, 0, 3, 1, 0, 0, 2), 2);
        DUE.is("a number that the SPAN has not", t.would(1, 0, -9, 1, 0, 0, 0), -90);
        DUE.is("the last SPAN's SETTING", t.would(1, 1, 7, 1, 0, 0, 1), 37);
        DUE.is("more at all four", t.would(1, 1, 7, 1, 0, 0, 2), 4);
    }

    /** "of each the sum over its ROWS is 0, and of any two the sum of their products" */
    private static void plans() {
        MadeTown t = new MadeTown();
        Model model = new Model();
        for (int k = 1; k <= 3; k++) {
            int end = 1 << (1 << k);
            for (int plan = 1; plan < end; plan += k < 3 ? 1 : 5) {
                for (int effects = 0; effects < end; effects += k < 3 ? 2 : 6) {
                    DUE.is("tells " + k + " " + plan + " " + effects, t.tells(k, plan, effects), model.tells(k, plan, effects));
                }
            }
        }
        // By hand, two FACTORS: EFFECT 1 is 1 at ROWS 1, 3; EFFECT 2 at ROWS 2, 3; EFFECT 3 at ROWS 0, 3.
        int[][] due = {{0b1010, 2, 0}, {0b0011, 2, 1}, {0b1100, 2, 1}, {0b0101, 2, 0}, {0b0101, 4, 1}, {0b1010, 4, 1}, {0b0011, 4, 0}, {0b0011, 8, 1},
            {0b1001, 8, 0}, {0b0110, 8, 0}, {0b0101, 8, 1}, {0b1001, 2, 1}, {0b1001, 4, 1}, {0b1001, 6, 0}, {0b0110, 6, 0}, {0b1111, 6, 1},
            {0b1111, 10, 1}, {0b1111, 12, 1}, {0b1111, 14, 1}, {0b0111, 2, 0}, {0b1000, 2, 0}, {0b1000, 0, 1}};
        for (int[] n : due) {
            DUE.is("two FACTORS, PLAN " + n[0] + " EFFECTS " + n[1], t.tells(2, n[0], n[1]), n[2]);
        }
        // "one with the fewest ROWS; of these the least as bits"
        int[][] fewest = {{1, 0, 1}, {1, 2, 3}, {2, 0, 1}, {2, 2, 3}, {2, 4, 5}, {2, 8, 3}, {2, 6, 15}, {2, 10, 15}, {2, 12, 15}, {2, 14, 15},
            {3, 0, 1}, {3, 2, 3}, {3, 4, 5}, {3, 16, 17}, {3, 8, 3}, {3, 32, 3}, {3, 64, 5}, {3, 128, 3}, {3, 6, 15}, {3, 22, 105}, {3, 254, 255}};
        for (int[] n : fewest) {
            DUE.is("fewest of " + n[0] + " FACTORS for " + n[1], t.fewest(n[0], n[1]), n[2]);
        }
    }
}
