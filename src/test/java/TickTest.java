/** Promises 12 to 15: what a TICK does, told by small texts. */
public final class TickTest {
    private static final Due DUE = new Due();
    private static final int MIN = Integer.MIN_VALUE;
    private static final int MAX = Integer.MAX_VALUE;

    public static void main(String[] args) {
        noSuchOnes();
        sums();
        divisions();
        conditions();
        lotsInOrder();
        counted();
        going();
        giving();
        picking();
        quitting();
        holding();
        wishes();
        DUE.end();
    }

    /** The first VAR of the first ONE behind one TICK, of a KIND a with x = 0 and one rule. */
    private static void rule(String rule, int x) {
        MadeTown t = Due.town("set zero = 0; set two = 2; kind a has x = 0; rule " + rule + " end end");
        t.one(0, 3, 1);
        DUE.is("x behind: " + rule, t.state(0, 1, 0, 0), x);
    }

    private static void noSuchOnes() {
        MadeTown t = Due.town("kind a has x = 1; end kind b end");
        t.one(0, 3, 2);
        int[][] none = {{-1, 0, 0}, {41, 0, 0}, {MAX, 0, 0}, {MIN, 0, 0}, {0, -1, 0}, {0, 1, 0}, {0, MAX, 0}, {0, 0, -1},
            {0, 0, 1}, {0, 0, MIN}};
        for (int[] n : none) {
            DUE.is("state " + n[0] + " " + n[1] + " " + n[2], t.state(0, n[0], n[1], n[2]), -1000000);
        }
        int[][] noFigure = {{-1, 0, 0}, {41, 0, 0}, {0, -1, 0}, {0, 2, 0}, {0, 0, -1}, {0, 0, 1}, {0, 1, 0}, {0, MAX, MAX}};
        for (int[] n : noFigure) {
            DUE.is("figure " + n[0] + " " + n[1] + " " + n[2], t.figure(0, n[0], n[1], n[2]), -1000000000);
        }
        int[][] noPlace = {{-1, 0}, {41, 0}, {0, -1}, {0, 1}, {MIN, 0}, {0, MAX}};
        for (int[] n : noPlace) {
            DUE.is("at " + n[0] + " " + n[1], t.at(0, n[0], n[1]), -1);
        }
        int[][] noWishes = {{-1, 0}, {40, 0}, {0, -1}, {0, 1}, {MAX, 0}};
        for (int[] n : noWishes) {
            DUE.is("wishes " + n[0] + " " + n[1], t.wishes(0, n[0], n[1]), -1);
        }
        DUE.is("state behind 40", t.state(MIN, 40, 0, 0), 1);
        DUE.is("at behind 40", t.at(MAX, 40, 0), 3);
        DUE.is("figure behind 40", t.figure(-7, 40, 0, 0), 2);
        DUE.is("wishes in 39", t.wishes(0, 39, 0), 0);
        MadeTown none2 = Due.town("kind a has x = 1; end kind b has y = 3; end");
        none2.one(1, 0, 1);
        DUE.is("figure of a KIND without ONES", none2.figure(0, 5, 0, 0), 0);
    }

    private static void sums() {
        rule("add x 1 + 2 * 3;", 7);
        rule("add x (1 + 2) * 3;", 9);
        rule("add x 10 - 4 - 3;", 3);
        rule("add x 100 / 7 / 2;", 7);
        rule("add x 100 / (7 / 2);", 33);
        rule("add x 2 * 3 + 4 * 5 - 6 / 4;", 25);
        rule("add x 7 - 2 * 3;", 1);
        rule("add x 2 + 9 / 2 * 2;", 10);
        rule("add x (0 - 7) / 2;", -3);
        rule("add x 7 / (0 - 2);", -3);
        rule("add x ((1 + 2) * (3 + (4 - 1) * 2) - 5) * 2;", 44);
        rule("add x 1 - (2 - (3 - (4 - (5 - (6 - 7)))));", 4);
        rule("add x two * (two + two * (two + two * (two + two * (two + two * (two + two * (two + two * 3))))));", 636);
        // 32 bits that wrap: 9999 * 9999 * 9999 is 999700029999.
        rule("add x 9999 * 9999 * 9999 / 1000 / 1000;", (9999 * 9999 * 9999) / 1000 / 1000);
        rule("add x 8192 * 8192 * 32 / 8192 / 8192;", -32);
        // The least int by -1 wraps to itself.
        rule("add x 8192 * 8192 * 32 / (0 - 1) / 8192 / 8192;", -32);
        rule("add x tick + 5; add x place * 10; add x two * 100;", 235);
    }

    private static void divisions() {
        rule("add x 5; add x 1 / zero;", 5);
        rule("add x 5 + 1 / zero;", 0);
        rule("add x (5 + (1 / zero)) * 0 + 7;", 0);
        rule("add x 1 / (2 / 3) + 8; add x 3;", 3);
        rule("add x zero / 5 + 8;", 8);
        rule("add x 5; go 1 / zero + 4;", 5);
        rule("if 1 / zero == 0 add x 5;", 0);
        rule("if 0 == 1 / zero add x 5;", 0);
        rule("if 1 / zero != 7 add x 5;", 0);
        rule("if 1 / zero <= 7 add x 5;", 0);
        rule("if 1 / zero < 7 add x 5;", 0);
        rule("if not 1 / zero == 0 add x 5;", 5);
        rule("if not not 1 / zero == 0 add x 5;", 0);
        rule("if not not not 1 / zero < 7 add x 5;", 5);
        rule("if 1 / zero == 0 or 1 == 1 add x 5;", 5);
        rule("if 1 == 1 and not 0 < 1 / zero add x 5 / zero + 1; add x 2;", 2);
        // A division by 0 in one E is none in the next.
        rule("if not 1 / zero == 0 and 1 == 1 add x 5;", 5);
    }

    private static void conditions() {
        rule("if 1 == 1 add x 5;", 5);
        rule("if 1 == 2 add x 5;", 0);
        rule("if 1 != 2 add x 5;", 5);
        rule("if 1 != 1 add x 5;", 0);
        rule("if 1 < 2 add x 5;", 5);
        rule("if 2 < 2 add x 5;", 0);
        rule("if 2 <= 2 add x 5;", 5);
        rule("if 3 <= 2 add x 5;", 0);
        rule("if 0 - 3 < 2 add x 5;", 5);
        rule("if not 1 == 1 add x 5;", 0);
        rule("if not not 1 == 1 add x 5;", 5);
        // and binds more than or.
        rule("if 1 == 1 or 1 == 1 and 1 == 2 add x 5;", 5);
        rule("if 1 == 2 and 1 == 1 or 1 == 1 add x 5;", 5);
        rule("if 1 == 2 or 1 == 1 and 1 == 2 add x 5;", 0);
        rule("if 1 == 2 or 1 == 2 or 1 == 1 add x 5;", 5);
        rule("if 1 == 1 and 1 == 1 and 1 == 2 add x 5;", 0);
        rule("if not 1 == 2 and 1 == 1 add x 5;", 5);
        rule("if 1 == 2 add x 5; end rule add x 1; end rule if 1 == 1 add x 10;", 11);
        rule("if 1 == 2 or 2 == 2 end rule if 2 == 1 or 1 == 2 add x 1; end rule add x 10;", 10);
    }

    /** Which LOTS are dealt, and in which order, is seen by the last one's number. */
    private static void lotNumber(String rule, int which) {
        MadeTown t = Due.town("set zero = 0; kind a has x = 0; has y = 50; " + rule + " rule add x lot 9999; end end");
        t.one(0, 0, 1);
        t.one(0, 0, 1);
        for (int seed = -1; seed < 2; seed++) {
            DUE.is("x behind: " + rule, t.state(seed, 1, 1, 0), t.lot(seed, 1, 0, which, 9999));
        }
    }

    private static void lotsInOrder() {
        lotNumber("", 0);
        lotNumber("rule add y lot 1; end", 1);
        lotNumber("rule add y lot 5 + lot 6; add y lot 7; end", 3);
        lotNumber("rule if lot 5 < 0 add y lot 5; end", 1);
        lotNumber("rule if lot 5 < 9 add y lot 5; end", 2);
        lotNumber("rule if lot 5 < 0 and lot 5 < 9 end", 1);
        lotNumber("rule if lot 5 < 9 and lot 5 < 9 end", 2);
        lotNumber("rule if lot 5 < 9 or lot 5 < 9 end", 1);
        lotNumber("rule if lot 5 < 0 or lot 5 < 9 end", 2);
        lotNumber("rule if lot 5 < 0 and lot 4 < 9 or lot 5 < 9 end", 2);
        lotNumber("rule if lot 5 < lot 6 + lot 7 end", 3);
        lotNumber("rule if 1 / zero == lot 6 end", 1);
        lotNumber("rule add y 1 / zero + lot 6; end", 1);
        lotNumber("rule give y lot 5 to near a; end", 1);
        lotNumber("rule give y lot 5 to pick a; end", 2);
        lotNumber("rule give y 1 to pick a; end", 1);
        lotNumber("rule give y 0 to pick a; end", 1);
        MadeTown t = Due.town("kind a has x = 0; rule give x 1 to pick a; add x lot 9999; end end");
        t.one(0, 0, 1);
        DUE.is("a pick of none is no LOT", t.state(3, 1, 0, 0), t.lot(3, 0, 0, 0, 9999));
        DUE.is("the LOTS begin anew in each TICK", t.state(3, 2, 0, 0) == Math.min(9999, t.lot(3, 0, 0, 0, 9999)
                + t.lot(3, 0, 1, 0, 9999)), true);
        givesLotAheadOfPick();
    }

    private static void givesLotAheadOfPick() {
        MadeTown t = Due.town("kind a has x = 900; rule give x lot 100 to pick b; end end kind b has x = 0; end");
        t.one(0, 0, 1);
        for (int i = 0; i < 5; i++) {
            t.one(1, 0, 1);
        }
        for (int seed = 0; seed < 9; seed++) {
            int amount = t.lot(seed, 0, 0, 0, 100);
            int picked = 1 + t.lot(seed, 0, 0, 1, 5);
            DUE.is("the E's LOT is dealt ahead of the pick's", t.state(seed, 1, picked, 0), amount);
        }
    }

    private static void counted() {
        MadeTown t = Due.town("kind a has h = 0; has s = 0; has n = 0; has v = 7; rule add h here; add s sum b w; add n all b; "
                + "add v sum a v; end end kind b has u = 0; has w = 5; rule if tick == 1 quit; end end");
        t.one(0, 2, 3);
        t.one(1, 2, 4);
        t.one(1, 2, 10);
        t.one(1, 3, 20);
        t.one(0, 2, 2);
        t.begin(2, 1, -2);
        DUE.is("here", t.state(0, 1, 0, 0), 19);
        DUE.is("sum b w", t.state(0, 1, 0, 1), 0);
        DUE.is("all b", t.state(0, 1, 0, 2), 34);
        DUE.is("sum a v: itself too", t.state(0, 1, 0, 3), 42);
        DUE.is("here with those that quit in this TICK", t.state(0, 2, 0, 0), 38);
        DUE.is("here without those that have quit", t.state(0, 3, 0, 0), 38 + 5);
        DUE.is("all b without those", t.state(0, 3, 0, 2), 68);
        t.begin(1, 1, 6);
        DUE.is("sum b w by other numbers", t.state(0, 1, 4, 1), 4);
        DUE.is("figure of those that have quit too", t.figure(0, 9, 1, 1), 24 - 20 + 100);
    }

    private static void going() {
        int[][] steps = {{0, 13, 3}, {4, 13, 7}, {9, 1, 0}, {3, 0, 3}, {5, 10, 5}, {9, 9999, 8}};
        for (int[] s : steps) {
            MadeTown t = Due.town("kind a rule go " + s[1] + "; end end");
            t.one(0, s[0], 1);
            DUE.is("at from " + s[0] + " by " + s[1], t.at(0, 1, 0), s[2]);
        }
        MadeTown back = Due.town("kind a rule go 0 - 3; end end");
        back.one(0, 1, 1);
        DUE.is("back by 3", back.at(0, 1, 0), 8);
        DUE.is("back by 6", back.at(0, 2, 0), 5);
        // 2^31 - 1: its rest by 10 is 7; with PLACE 5 that would wrap.
        MadeTown far = Due.town("kind a rule go 8192 * 8192 * 31 + (8192 * 8192 - 1); end end");
        far.one(0, 5, 1);
        DUE.is("the sum does not wrap", far.at(0, 1, 0), 2);
        MadeTown least = Due.town("kind a rule go 8192 * 8192 * 32; end end");
        least.one(0, 5, 1);
        DUE.is("-2^31: rest 2", least.at(0, 1, 0), 7);
        MadeTown twice = Due.town("kind a has x = 0; rule go 1; go 1; add x place; end end");
        twice.one(0, 5, 1);
        DUE.is("two goes", twice.at(0, 1, 0), 7);
        DUE.is("place is that ahead of the TICK", twice.state(0, 1, 0, 0), 5);
    }

    private static void giving() {
        MadeTown t = Due.town("set n = 3; kind a has y = 1; has x = 10; rule give x n to near b; end end "
                + "kind b has x = 100; end");
        t.one(0, 4, 1);
        t.one(1, 5, 1);
        t.one(1, 4, 1);
        t.one(1, 4, 1);
        DUE.is("less", t.state(0, 1, 0, 1), 7);
        DUE.is("to the nearest", t.state(0, 1, 2, 0), 103);
        DUE.is("not elsewhere", t.state(0, 1, 1, 0), 100);
        DUE.is("not to the next", t.state(0, 1, 3, 0), 100);
        DUE.is("what it has", t.state(0, 4, 0, 1), 0);
        DUE.is("what it had", t.state(0, 4, 2, 0), 110);
        t.set(0, 0);
        DUE.is("E 0", t.state(0, 1, 0, 1), 10);
        t.set(0, -1);
        DUE.is("E -1", t.state(0, 1, 0, 1), 10);
        t.set(0, 1);
        DUE.is("E 1", t.state(0, 1, 0, 1), 9);
        t.begin(0, 1, -5);
        DUE.is("of less than nothing", t.state(0, 1, 0, 1), -5);
        t.begin(0, 1, 0);
        DUE.is("of nothing", t.state(0, 1, 2, 0), 100);
        t.begin(0, 1, 1);
        DUE.is("of 1", t.state(0, 1, 2, 0), 101);
        MadeTown alone = Due.town("kind a has x = 10; rule give x 3 to near a; give x 4 to pick a; end end");
        alone.one(0, 4, 1);
        alone.one(0, 3, 1);
        DUE.is("to none", alone.state(0, 1, 0, 0), 10);
        MadeTown moved = Due.town("kind a has x = 9; rule if tick == 0 go 1; end rule give x 2 to near b; end end "
                + "kind b has x = 0; end");
        moved.one(0, 0, 1);
        moved.one(1, 0, 1);
        moved.one(1, 1, 1);
        DUE.is("near ahead of the TICK", moved.state(0, 1, 1, 0), 2);
        DUE.is("then at the other PLACE", moved.state(0, 2, 2, 0), 2);
        MadeTown added = Due.town("kind a has x = 0; rule add x 5; give x 9 to near a; end end");
        added.one(0, 0, 1);
        added.one(0, 0, 1);
        DUE.is("what it has now: 5 that it gets from 0, and its own 5", added.state(0, 1, 0, 0), 9);
        DUE.is("and what stays", added.state(0, 1, 1, 0), 1);
    }

    private static void picking() {
        MadeTown t = Due.town("kind b has x = 0; end kind a has x = 100; rule give x 7 to pick b; end end");
        t.one(0, 0, 1);
        t.one(0, 1, 1);
        t.one(1, 0, 1);
        t.one(0, 0, 1);
        t.one(1, 0, 1);
        t.one(0, 0, 1);
        int[] there = {0, 3, 5};
        for (int seed = 0; seed < 12; seed++) {
            int picked = there[t.lot(seed, 2, 0, 0, 3)];
            int other = there[t.lot(seed, 4, 0, 0, 3)];
            int due = picked == other ? 14 : 7;
            DUE.is("picked " + picked, t.state(seed, 1, picked, 0), due);
            DUE.is("all that is picked", t.figure(seed, 1, 0, 0), 14);
        }
        MadeTown self = Due.town("kind a has x = 100; rule if place == 0 and x == 100 give x 7 to pick a; go 1; end end");
        for (int i = 0; i < 3; i++) {
            self.one(0, 0, 1);
        }
        self.begin(1, 0, 99);
        for (int seed = 0; seed < 6; seed++) {
            int zero = self.lot(seed, 0, 0, 0, 2) == 0 ? 1 : 2;
            int two = self.lot(seed, 2, 0, 0, 2) == 0 ? 0 : 1;
            DUE.is("not itself", self.state(seed, 1, 1, 0), 99 + (zero == 1 ? 7 : 0) + (two == 1 ? 7 : 0));
        }
    }

    private static void quitting() {
        MadeTown t = Due.town("kind a has x = 10; rule if tick == 1 quit; add x 5; go 2; give x 3 to near b; end "
                + "rule add x 1; end end kind b has x = 0; rule give x 1 to near a; end end");
        t.one(0, 0, 1);
        t.one(1, 0, 1);
        t.one(1, 0, 1);
        DUE.is("at before", t.at(0, 1, 0), 0);
        DUE.is("at behind", t.at(0, 2, 0), -2);
        DUE.is("wishes behind a quit are done", t.state(0, 2, 0, 0), 10 + 1 + 5 - 3 + 1);
        DUE.is("the gift came", t.state(0, 2, 1, 0), 3);
        DUE.is("its VARS stay", t.state(0, 9, 0, 0), 14);
        DUE.is("it is not near any more", t.state(0, 9, 1, 0), 3);
        DUE.is("wishes in the TICK", t.wishes(0, 1, 0), 5);
        DUE.is("no wishes behind", t.wishes(0, 2, 0), 0);
        DUE.is("at stays", t.at(0, 40, 0), -2);
        MadeTown now = Due.town("kind a has x = 0; rule quit; end end kind b has x = 5; rule give x 2 to near a; end end");
        now.one(1, 0, 1);
        now.one(0, 0, 1);
        now.one(1, 0, 1);
        DUE.is("given before it quits", now.state(0, 1, 0, 0), 3);
        DUE.is("not given to one that has quit by now", now.state(0, 1, 2, 0), 5);
        DUE.is("what it got", now.state(0, 1, 1, 0), 2);
        MadeTown two = Due.town("kind a has x = 0; rule if tick == 0 and x == 1 quit; end rule give x 1 to near a; end end");
        two.one(0, 0, 1);
        two.one(0, 0, 1);
        two.one(0, 0, 1);
        two.begin(0, 0, 1);
        two.begin(2, 0, 5);
        DUE.is("the nearest has quit by now: nothing", two.state(0, 1, 2, 0), 5);
        DUE.is("then the next one", two.state(0, 2, 1, 0), 1);
    }

    private static void holding() {
        MadeTown t = Due.town("kind a has x = 9990; rule add x 20; add x 0 - 15; end end kind b has y = -9990; rule add y 0 - 20; end end");
        t.one(0, 0, 2);
        t.one(1, 0, 3);
        DUE.is("not held within a TICK", t.state(0, 1, 0, 0), 9995);
        DUE.is("held behind it", t.state(0, 2, 0, 0), 9999);
        DUE.is("held again", t.state(0, 3, 0, 0), 9999);
        DUE.is("held below", t.state(0, 2, 1, 0), -9999);
        DUE.is("figure", t.figure(0, 2, 1, 0), -29997);
        MadeTown wraps = Due.town("kind a has x = 1; rule add x 8192 * 8192 * 31 + (8192 * 8192 - 1); end end");
        wraps.one(0, 0, 1);
        DUE.is("an add wraps", wraps.state(0, 1, 0, 0), -9999);
        MadeTown ahead = Due.town("kind a has x = 1; rule add x x; add x x; end end");
        ahead.one(0, 0, 1);
        DUE.is("E's are by what was ahead of the TICK", ahead.state(0, 1, 0, 0), 3);
    }

    private static void wishes() {
        MadeTown t = Due.town("kind a has x = 0; rule if tick < 2 add x 1; give x 0 to near a; end rule go 0; quit; end "
                + "rule if 1 == 2 go 1; end end kind b rule if lot 2 == 0 go 1; end end");
        t.one(0, 0, 1);
        t.one(1, 0, 1);
        DUE.is("done or not", t.wishes(0, 0, 0), 4);
        DUE.is("it has quit", t.wishes(0, 1, 0), 0);
        for (int seed = 0; seed < 10; seed++) {
            DUE.is("by LOTS", t.wishes(seed, 5, 1), t.lot(seed, 1, 5, 0, 2) == 0 ? 1 : 0);
        }
    }
}
