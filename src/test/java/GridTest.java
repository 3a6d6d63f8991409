/** Promises 21 to 26: SEEN, SPANS, THE GRID, what stays UNTOLD, what another number WOULD do. */
public final class GridTest {
    private static final Due DUE = new Due();
    private static final int MIN = Integer.MIN_VALUE;
    private static final int MAX = Integer.MAX_VALUE;
    private static final String TWO =
            "set a = 0; set b = 0; set c = 0; set d = 7; kind k has x = 0; rule add x a * 10 + b + c * 100; end end kind l end";

    public static void main(String[] args) {
        seen();
        spans();
        turns();
        meets();
        meetsAnew();
        seeds();
        untold();
        would();
        wouldBySeeds();
        DUE.end();
    }

    private static MadeTown two() {
        MadeTown t = Due.town(TWO);
        t.one(0, 0, 1);
        return t;
    }

    private static void seen() {
        MadeTown t = two();
        int[][] none = {{-1, 0, 0, 0, 1}, {41, 0, 0, 0, 1}, {0, -1, 0, 0, 1}, {0, 2, 0, 0, 1}, {0, 0, -1, 0, 1},
            {0, 0, 1, 0, 1}, {0, 1, 0, 0, 1}, {0, 0, 0, 1, 0}, {0, 0, 0, MAX, MIN}};
        for (int[] n : none) {
            DUE.is("seen " + n[0] + " " + n[1] + " " + n[2] + " " + n[3], t.seen(n[0], n[1], n[2], n[3], n[4]), -1);
        }
        DUE.is("nothing happened", t.count(4), 0);
        DUE.is("seen", t.seen(0, 0, 0, MIN, MAX), 0);
        DUE.is("seen 1", t.seen(40, 0, 0, 0, 0), 1);
        for (int i = 2; i < 8; i++) {
            DUE.is("seen " + i, t.seen(0, 0, 0, 0, 0), i);
        }
        DUE.is("a ninth", t.seen(0, 0, 0, 0, 0), -1);
        DUE.is("count 4", t.count(4), 8);
        DUE.is("meets", t.meets(1), 1);
    }

    private static void spans() {
        MadeTown t = two();
        int[][] none = {{-1, 0, 1, 1}, {4, 0, 1, 1}, {0, 1, 0, 1}, {0, -10000, 0, 9999}, {0, 0, 10000, 9999}, {0, 0, 1, 0},
            {0, 0, 1, -1}, {0, 0, 1, 10000}, {0, 0, 200, 1}, {0, MIN, MAX, 9999}, {0, MAX, MIN, 1}, {MIN, 0, 0, 1}};
        for (int[] n : none) {
            DUE.is("span " + n[0] + " " + n[1] + " " + n[2] + " " + n[3], t.span(n[0], n[1], n[2], n[3]), -1);
        }
        DUE.is("nothing happened", t.count(5), 0);
        DUE.is("200 points", t.span(0, -9999, 9999, 100), 200);
        DUE.is("one more number each", t.span(1, 5, 6, 1), -1);
        DUE.is("of one number", t.span(1, 5, 5, 9999), 200);
        DUE.is("a SETTING that has one", t.span(0, 5, 5, 1), -1);
        DUE.is("a third", t.span(3, -9999, -9999, 1), 200);
        DUE.is("a fourth", t.span(2, 1, 1, 1), -1);
        DUE.is("count 5", t.count(5), 3);
        DUE.is("all meet", t.meets(1), 200);
        DUE.is("the last number of the first SPAN", t.met(1, 199, 0), -9999 + 199 * 100);
        DUE.is("the number of the third", t.met(1, 199, 2), -9999);
        DUE.is("no 201st", t.met(1, 200, 0), -1000000);
        DUE.is("all untold", t.untold(1), 7);
        DUE.is("the least of 200", t.would(1, 2, 1, 1, 0, 0, 0), -9999);
        DUE.is("the most of 200", t.would(1, 2, 1, 1, 0, 0, 1), 9999);
        DUE.is("more at some of 200", t.would(1, 2, 1, 1, 0, 0, 2), moreOf200());
        MadeTown u = two();
        DUE.is("100 points", u.span(0, 0, 99, 1), 100);
        DUE.is("300 are too many", u.span(1, 0, 2, 1), -1);
        DUE.is("200 are not", u.span(1, 0, 9999, 9998), 200);
        MadeTown w = two();
        DUE.is("199 numbers", w.span(0, 1, 199, 1), 199);
        DUE.is("201 are too many", two().span(0, 0, 200, 1), -1);
        DUE.is("rest of a STEP", two().span(0, 0, 8, 3), 3);
        DUE.is("rest of a STEP", two().span(0, 0, 9, 3), 4);
        DUE.is("a STEP too far", two().span(0, 0, 8, 9), 1);
    }

    private static int held(int x) {
        return Math.max(-9999, Math.min(9999, x));
    }

    private static int moreOf200() {
        int more = 0;
        for (int a = -9999; a <= 9999; a += 100) {
            more += held(a * 10 + 5 + 100) > held(a * 10 + 5) ? 1 : 0;
        }
        return more;
    }

    private static void turns() {
        MadeTown t = two();
        t.span(2, 1, 2, 1);
        t.span(0, -5, 1, 3);
        t.span(1, 7, 8, 1);
        int[] c = {1, 1, 1, 1, 1, 1, 2, 2, 2, 2, 2, 2};
        int[] a = {-5, -5, -2, -2, 1, 1, -5, -5, -2, -2, 1, 1};
        int[] b = {7, 8, 7, 8, 7, 8, 7, 8, 7, 8, 7, 8};
        DUE.is("meets", t.meets(2), 12);
        for (int i = 0; i < 12; i++) {
            DUE.is("met " + i + " 0", t.met(2, i, 0), c[i]);
            DUE.is("met " + i + " 1", t.met(2, i, 1), a[i]);
            DUE.is("met " + i + " 2", t.met(2, i, 2), b[i]);
        }
        int[][] none = {{0, 0, 0}, {4, 0, 0}, {1, -1, 0}, {1, 12, 0}, {1, 0, -1}, {1, 0, 3}, {MIN, 0, 0}, {1, MAX, 0}, {1, 0, MAX}};
        for (int[] n : none) {
            DUE.is("met " + n[0] + " " + n[1] + " " + n[2], t.met(n[0], n[1], n[2]), -1000000);
        }
        DUE.is("met without SPANS", two().met(1, 0, 0), -1000000);
    }

    private static void meets() {
        MadeTown t = two();
        DUE.is("meets 0", t.meets(0), -1);
        DUE.is("meets 4", t.meets(4), -1);
        DUE.is("meets -1", t.meets(-1), -1);
        DUE.is("without SPANS and SEEN", t.meets(3), 1);
        t.seen(1, 0, 0, 1, 9);
        DUE.is("without SPANS, not met", t.meets(3), 0);
        t.set(1, 1);
        DUE.is("without SPANS, met at low", t.meets(3), 1);
        t.set(1, 9);
        DUE.is("met at high", t.meets(3), 1);
        t.set(1, 10);
        DUE.is("not met above", t.meets(3), 0);
        // A SPAN's SETTING is what the SPAN says, whatever is set.
        t.span(1, 0, 12, 1);
        DUE.is("1 .. 9", t.meets(1), 9);
        t.set(1, 50);
        DUE.is("1 .. 9 still", t.meets(1), 9);
        t.seen(2, 0, 0, 6, 10);
        DUE.is("twice that 6 .. 10: 3, 4, 5", t.meets(1), 3);
        DUE.is("the first that meets", t.met(1, 0, 0), 3);
        DUE.is("the last that meets", t.met(1, 2, 0), 5);
        DUE.is("no fourth", t.met(1, 3, 0), -1000000);
        t.seen(0, 0, 0, 1, 1);
        DUE.is("a SEEN behind no TICK", t.meets(1), 0);
    }

    /** Whatever changes RUNS or what was SEEN must count at once. */
    private static void meetsAnew() {
        MadeTown t = two();
        t.seen(1, 0, 0, 20, 30);
        t.span(0, 0, 5, 1);
        DUE.is("2, 3", t.meets(3), 2);
        t.set(1, 10);
        DUE.is("set: 1, 2", t.met(3, 0, 0), 1);
        t.begin(0, 0, -10);
        DUE.is("begin: 2, 3", t.met(3, 0, 0), 2);
        t.one(0, 0, 1);
        DUE.is("one: 20 <= 20 a + 10 <= 30 leaves 1", t.met(3, 0, 0), 1);
        DUE.is("one alone", t.meets(3), 1);
        t.span(2, -1, 0, 1);
        DUE.is("span", t.met(3, 0, 1), 0);
        t.seen(1, 0, 0, 31, 32);
        DUE.is("seen", t.meets(3), 0);
        MadeTown o = Due.giveAndTake(new MadeTown());
        o.seen(1, 0, 0, 4, 4);
        DUE.is("by numbers", o.meets(3), 1);
        o.order(true);
        int due = 1;
        for (int seed = 0; seed < 3; seed++) {
            due = o.lot(seed, 0, 0, 1000, 1000) <= o.lot(seed, 1, 0, 1000, 1000) ? due : 0;
        }
        DUE.is("dealt", o.meets(3), due);
        o.order(false);
        DUE.is("by numbers again", o.meets(3), 1);
    }

    private static void seeds() {
        MadeTown t = Due.town("set a = 0; kind k has x = 0; rule add x lot 10 + a; end end");
        t.one(0, 0, 1);
        t.span(0, -20, 20, 1);
        t.seen(1, 0, 0, 3, 5);
        int lots0 = t.lot(0, 0, 0, 0, 10);
        int lots1 = t.lot(1, 0, 0, 0, 10);
        int lots2 = t.lot(2, 0, 0, 0, 10);
        int[] due = new int[4];
        int first3 = -1000000;
        for (int a = -20; a <= 20; a++) {
            boolean zero = a + lots0 >= 3 && a + lots0 <= 5;
            boolean one = a + lots1 >= 3 && a + lots1 <= 5;
            boolean two = a + lots2 >= 3 && a + lots2 <= 5;
            due[1] += zero ? 1 : 0;
            due[2] += zero && one ? 1 : 0;
            due[3] += zero && one && two ? 1 : 0;
        }
        DUE.is("meets 3", t.meets(3), due[3]);
        DUE.is("meets 1", t.meets(1), due[1]);
        DUE.is("meets 2", t.meets(2), due[2]);
        DUE.is("meets 1 is of SEED 0 alone", t.met(1, 0, 0), 3 - lots0);
        DUE.is("the LOTS are not all alike", lots0 != lots1 || lots1 != lots2, true);
        DUE.is("no point", t.met(3, due[3], 0), first3);
    }

    private static void untold() {
        MadeTown t = two();
        t.span(0, 0, 5, 2);
        t.span(1, 0, 1, 1);
        DUE.is("untold 0", t.untold(0), -1);
        DUE.is("untold 4", t.untold(4), -1);
        DUE.is("without SEEN both", t.untold(1), 3);
        t.seen(1, 0, 0, 0, 40);
        DUE.is("all but 41: both", t.untold(2), 3);
        t.seen(1, 0, 0, 1, 39);
        DUE.is("1, 20, 21: a's last number not, b both", t.untold(1), 2);
        t.seen(1, 0, 0, 21, 99);
        DUE.is("21 alone", t.untold(1), 0);
        MadeTown s = two();
        s.span(0, 0, 5, 3);
        s.span(3, 4, 4, 1);
        s.seen(1, 0, 0, 30, 30);
        DUE.is("a SPAN of one number is untold if a point meets; 3 is a's last", s.untold(3), 2);
        DUE.is("no SPANS", two().untold(3), 0);
        MadeTown none = two();
        none.span(0, 1, 1, 1);
        none.seen(0, 0, 0, 1, 1);
        DUE.is("no point meets", none.untold(1), 0);
    }

    private static void would() {
        MadeTown t = two();
        t.span(0, 1, 4, 1);
        t.seen(1, 0, 0, 20, 30);
        DUE.is("the least", t.would(1, 1, 5, 1, 0, 0, 0), 25);
        DUE.is("the most", t.would(1, 1, 5, 1, 0, 0, 1), 35);
        DUE.is("more at both", t.would(1, 1, 5, 1, 0, 0, 2), 2);
        DUE.is("more at both, by 3 SEEDS", t.would(3, 1, 5, 1, 0, 0, 2), 6);
        DUE.is("no more", t.would(1, 1, 0, 1, 0, 0, 2), 0);
        DUE.is("less", t.would(1, 1, -9999, 1, 0, 0, 2), 0);
        DUE.is("behind more TICKS", t.would(1, 1, 5, 3, 0, 0, 1), 105);
        DUE.is("behind none", t.would(1, 1, 5, 0, 0, 0, 1), 0);
        DUE.is("the SPAN's SETTING itself: it is told the number", t.would(1, 0, 3, 1, 0, 0, 0), 30);
        DUE.is("and the most", t.would(1, 0, 3, 1, 0, 0, 1), 30);
        DUE.is("more than with 2, not than with 3", t.would(1, 0, 3, 1, 0, 0, 2), 1);
        DUE.is("below 0", t.would(1, 1, -9000, 1, 0, 0, 0), -8980);
        DUE.is("below 0, the most", t.would(1, 1, -9000, 1, 0, 0, 1), -8970);
        int[][] none = {{0, 1, 5, 1, 0, 0, 0}, {4, 1, 5, 1, 0, 0, 0}, {1, 4, 5, 1, 0, 0, 0}, {1, -1, 5, 1, 0, 0, 0},
            {1, 1, 10000, 1, 0, 0, 0}, {1, 1, -10000, 1, 0, 0, 1}, {1, 1, 5, -1, 0, 0, 2}, {1, 1, 5, 41, 0, 0, 2},
            {1, 1, 5, 1, -1, 0, 2}, {1, 1, 5, 1, 2, 0, 2}, {1, 1, 5, 1, 1, 0, 2}, {1, 1, 5, 1, 0, 1, 2},
            {1, 1, 5, 1, 0, -1, 2}, {1, 1, 5, 1, 0, 0, -1}, {1, 1, 5, 1, 0, 0, 3}, {1, 1, 5, 1, 0, 0, MIN}};
        for (int[] n : none) {
            DUE.is("would of none", t.would(n[0], n[1], n[2], n[3], n[4], n[5], n[6]), -1000000000);
        }
        DUE.is("the SETTING is as it was", t.setting(1), 0);
        t.seen(1, 0, 0, 500, 600);
        DUE.is("no point: the least", t.would(1, 1, 5, 1, 0, 0, 0), -1000000000);
        DUE.is("no point: the most", t.would(1, 1, 5, 1, 0, 0, 1), -1000000000);
        DUE.is("no point: at how many", t.would(1, 1, 5, 1, 0, 0, 2), 0);
        MadeTown one = two();
        DUE.is("without SPANS one point", one.would(2, 1, 5, 1, 0, 0, 2), 2);
    }

    private static void wouldBySeeds() {
        MadeTown t = Due.town("set a = 5; kind k has x = 0; rule if lot 10 < a add x 1 + lot 100; end end");
        t.one(0, 0, 1);
        for (int v = 0; v <= 10; v++) {
            int least = MAX;
            int most = MIN;
            int more = 0;
            for (int seed = 0; seed < 3; seed++) {
                int lot = t.lot(seed, 0, 0, 0, 10);
                int added = 1 + t.lot(seed, 0, 0, 1, 100);
                int with = lot < v ? added : 0;
                int without = lot < 5 ? added : 0;
                least = Math.min(least, with);
                most = Math.max(most, with);
                more += with > without ? 1 : 0;
            }
            DUE.is("least with " + v, t.would(3, 0, v, 1, 0, 0, 0), least);
            DUE.is("most with " + v, t.would(3, 0, v, 1, 0, 0, 1), most);
            DUE.is("more with " + v, t.would(3, 0, v, 1, 0, 0, 2), more);
        }
    }
}
