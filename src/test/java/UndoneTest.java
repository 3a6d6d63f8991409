/** Promises 16 to 20: one doing undone, whose course changes, CAUSES and their SHARES. */
public final class UndoneTest {
    private static final Due DUE = new Due();
    private static final int MIN = Integer.MIN_VALUE;
    private static final int MAX = Integer.MAX_VALUE;

    public static void main(String[] args) {
        changedVars();
        changedPlaces();
        changedBack();
        lotsAreDealtAllTheSame();
        noSuchOnes();
        twenty();
        causes();
        shares();
        sharesByProducts();
        DUE.end();
    }

    /** 0 gives to 1 in TICK 1, who gives on when it has more than 2; 2 stands elsewhere. */
    private static void changedVars() {
        MadeTown t = Due.town("kind a has x = 5; rule if tick == 1 give x 3 to near b; end end "
                + "kind b has x = 0; rule if 2 < x give x 1 to near c; end end kind c has x = 0; end");
        t.one(0, 0, 1);
        t.one(1, 0, 1);
        t.one(2, 0, 1);
        t.one(2, 1, 1);
        DUE.is("changed up to 2", t.changed(0, 2, 0, 1), 0b0011);
        DUE.is("changed up to 3", t.changed(0, 3, 0, 1), 0b0111);
        DUE.is("changed, undone where nothing is wished", t.changed(0, 5, 0, 0), 0);
        DUE.is("changed by 1 in TICK 2", t.changed(0, 5, 1, 2), 0b0110);
        DUE.is("first of 0", t.first(0, 3, 0, 1, 0), 1);
        DUE.is("first of 1", t.first(0, 3, 0, 1, 1), 1);
        DUE.is("first of 2", t.first(0, 3, 0, 1, 2), 2);
        DUE.is("first of 2 up to 2", t.first(0, 2, 0, 1, 2), -2);
        DUE.is("first of 3", t.first(0, 40, 0, 1, 3), -2);
        DUE.is("first of 1 by 1", t.first(0, 5, 1, 2, 1), 2);
        // Undone in TICK 2 it still has 3 and gives in TICK 3: then all is as it was.
        DUE.is("the same later on is CHANGED all the same", t.changed(0, 40, 1, 2), 0b0110);
    }

    private static void changedPlaces() {
        MadeTown t = Due.town("kind a rule if tick == 2 go 1; end rule if place == 3 quit; end end kind b rule quit; go 10; end end");
        t.one(0, 2, 1);
        t.one(1, 0, 1);
        DUE.is("a PLACE", t.changed(0, 3, 0, 2), 1);
        DUE.is("first PLACE", t.first(0, 40, 0, 2, 0), 2);
        DUE.is("whether it has quit", t.changed(0, 4, 0, 3), 1);
        DUE.is("first quit", t.first(0, 4, 0, 3, 0), 3);
        DUE.is("quit of b", t.first(0, 1, 1, 0, 1), 0);
        DUE.is("it quits one TICK later: first", t.changed(0, 1, 1, 0), 2);
        DUE.is("nothing to be undone", t.changed(0, 40, 1, 1), 0);
        MadeTown gone = Due.town("kind a rule if tick == 0 go 1; end rule if tick == 1 quit; end end");
        gone.one(0, 2, 1);
        DUE.is("the PLACE of one that has quit", gone.first(0, 2, 0, 0, 0), 0);
    }

    private static void changedBack() {
        MadeTown t = Due.town("kind a has x = 0; rule if x < 1 add x 1; end end");
        t.one(0, 0, 1);
        DUE.is("not the same behind TICK 0 alone", t.changed(0, 40, 0, 0), 1);
        DUE.is("first", t.first(0, 40, 0, 0, 0), 0);
        MadeTown held = Due.town("kind a has x = 9998; rule add x 5; end end");
        held.one(0, 0, 1);
        DUE.is("held alike", held.changed(0, 40, 0, 1), 0);
        DUE.is("not held alike", held.changed(0, 40, 0, 0), 1);
        MadeTown order = Due.town("kind a has x = 9; rule give x 2 to near b; end end kind b has x = 0; rule add x 0 - x; end end");
        order.one(0, 0, 1);
        order.one(1, 0, 1);
        DUE.is("x of b", order.state(0, 2, 1, 0), 2);
        DUE.is("b's own doing", order.first(0, 3, 1, 1, 1), 1);
        DUE.is("b's own doing of nothing", order.first(0, 1, 1, 0, 1), -2);
    }

    private static void lotsAreDealtAllTheSame() {
        MadeTown t = Due.town("kind a has x = 0; has y = 0; rule add x lot 1000; end rule add y lot 1000; end end");
        t.one(0, 0, 1);
        t.one(0, 0, 1);
        t.order(true);
        for (int seed = 0; seed < 5; seed++) {
            DUE.is("only the ONE itself", t.changed(seed, 5, 1, 2), 2);
            DUE.is("none of another", t.first(seed, 5, 1, 2, 0), -2);
            DUE.is("behind that TICK", t.first(seed, 5, 1, 2, 1), 2);
        }
    }

    private static void noSuchOnes() {
        MadeTown t = Due.town("kind a has x = 0; rule add x 1; end end");
        t.one(0, 0, 1);
        int[][] none = {{-1, 0, 0}, {0, 0, 0}, {41, 0, 0}, {5, -1, 0}, {5, 1, 0}, {5, 0, -1}, {5, 0, 5}, {MIN, 0, 0},
            {MIN, 0, MAX}, {5, MAX, 0}, {5, 0, MIN}, {5, 0, MAX}};
        for (int[] n : none) {
            DUE.is("changed " + n[0] + " " + n[1] + " " + n[2], t.changed(0, n[0], n[1], n[2]), -1);
            DUE.is("first " + n[0] + " " + n[1] + " " + n[2], t.first(0, n[0], n[1], n[2], 0), -1);
        }
        DUE.is("first of other -1", t.first(0, 5, 0, 0, -1), -1);
        DUE.is("first of other 1", t.first(0, 5, 0, 0, 1), -1);
        DUE.is("changed 40 39", t.changed(0, 40, 0, 39), 1);
        DUE.is("first 40 39", t.first(0, 40, 0, 39, 0), 39);
        DUE.is("changed 1 0", t.changed(MIN, 1, 0, 0), 1);
    }

    private static void twenty() {
        MadeTown t = Due.town("kind a has x = 0; rule if tick == 0 go 0; give x 20 to near b; end end "
                + "kind b has x = 0; rule if 0 < sum a x add x 1; end end");
        t.one(0, 0, 1);
        for (int i = 1; i < 20; i++) {
            t.one(1, i < 19 ? 1 : 0, 1);
        }
        t.begin(0, 0, 5);
        DUE.is("bits 0 and 19", t.changed(0, 2, 0, 0), 1 | 1 << 19);
    }

    private static void causes() {
        MadeTown t = Due.town("set a = 1; set b = 2; kind k has x = 0; rule add x a; end end");
        DUE.is("no such SETTING", t.cause(2, 0), -1);
        DUE.is("SETTING -1", t.cause(-1, 0), -1);
        DUE.is("v 10000", t.cause(0, 10000), -1);
        DUE.is("v -10000", t.cause(0, -10000), -1);
        DUE.is("none happened", t.count(3), 0);
        DUE.is("cause 0", t.cause(0, 9999), 0);
        DUE.is("cause 1", t.cause(0, -9999), 1);
        DUE.is("cause 2", t.cause(1, 2), 2);
        DUE.is("cause 3", t.cause(0, 1), 3);
        DUE.is("a fifth", t.cause(0, 1), -1);
        DUE.is("count 3", t.count(3), 4);
        DUE.is("settings stay", t.setting(0), 1);
        DUE.is("clear", t.clear(), 4);
        DUE.is("clear again", t.clear(), 0);
        DUE.is("cause anew", t.cause(1, 5), 0);
    }

    private static void shares() {
        MadeTown t = Due.town("set a = 1; set b = 2; kind k has x = 0; rule add x a + b * 100; end end kind l end");
        t.one(0, 0, 1);
        t.one(0, 0, 2);
        long none = -1000000000000L;
        DUE.is("no CAUSE", t.share(0, 0, 1, 0, 0), none);
        t.cause(0, 4);
        DUE.is("one CAUSE: 3 more, by 3 ONES, 2 TICKS", t.share(0, 0, 2, 0, 0), 18);
        t.cause(1, 5);
        DUE.is("each alone adds the same, in 2 orders", t.share(0, 0, 1, 0, 0), 2 * 9);
        DUE.is("and the other one", t.share(1, 0, 1, 0, 0), 2 * 900);
        // A third one on SETTING a counts whenever it is there: 11.
        t.cause(0, 11);
        DUE.is("cause 0 adds 9 in the three orders where 2 is behind it", t.share(0, 0, 1, 0, 0), 3 * 9);
        DUE.is("cause 2 adds 30 then, else 21", t.share(2, 0, 1, 0, 0), 3 * 30 + 3 * 21);
        DUE.is("cause 1", t.share(1, 0, 1, 0, 0), 6 * 900);
        t.cause(1, 2);
        DUE.is("cause 3 sets b back where 1 is ahead", t.share(3, 0, 1, 0, 0), -12 * 900);
        DUE.is("cause 1 adds where 3 is behind", t.share(1, 0, 1, 0, 0), 12 * 900);
        int[][] wrong = {{-1, 0, 0, 0}, {4, 0, 0, 0}, {0, -1, 0, 0}, {0, 41, 0, 0}, {0, 0, -1, 0}, {0, 0, 2, 0},
            {0, 0, 0, -1}, {0, 0, 0, 1}, {0, 0, 1, 0}, {MAX, 0, 0, 0}, {MIN, 0, 0, 0}};
        for (int[] w : wrong) {
            DUE.is("share " + w[0] + " " + w[1] + " " + w[2] + " " + w[3], t.share(w[0], 0, w[1], w[2], w[3]), none);
        }
        DUE.is("behind no TICK", t.share(0, 0, 0, 0, 0), 0);
        t.set(0, 11);
        DUE.is("from the SETTINGS as they are now", t.share(2, 0, 1, 0, 0), 12 * 21);
        t.clear();
        DUE.is("cleared", t.share(0, 0, 1, 0, 0), none);
    }

    /** x grows by a * b * c: from 0 each CAUSE counts only when it comes last. */
    private static void sharesByProducts() {
        MadeTown t = Due.town("set a = 0; set b = 0; set c = 0; kind k has x = 0; rule add x a * b * c; end end");
        t.one(0, 0, 99);
        t.cause(0, 10);
        t.cause(1, 10);
        t.cause(2, 50);
        for (int cause = 0; cause < 3; cause++) {
            DUE.is("last in 2 of 6 orders", t.share(cause, 0, 1, 0, 0), 2L * 5000 * 99);
        }
        DUE.is("the SHARES are all that is added, times 6", t.figure(0, 1, 0, 0), 0);
        t.clear();
        t.set(0, 1);
        t.set(1, 9999);
        for (int i = 0; i < 19; i++) {
            t.one(0, 0, 99);
        }
        t.cause(2, 1);
        t.cause(2, 1);
        t.cause(2, 1);
        t.cause(2, 1);
        DUE.is("a large one: 6 of 24 orders", t.share(0, 0, 1, 0, 0), 6L * 20 * 99 * 9999);
    }
}
