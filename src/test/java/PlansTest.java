/** Promises 27 and 28: PLANS of TRIALS. */
public final class PlansTest {
    private static final Due DUE = new Due();
    private static final int MIN = Integer.MIN_VALUE;
    private static final int MAX = Integer.MAX_VALUE;

    public static void main(String[] args) {
        MadeTown t = new MadeTown();
        noSuchOnes(t);
        tells(t);
        fewest(t);
        DUE.end();
    }

    private static void noSuchOnes(MadeTown t) {
        int[][] none = {{0, 1, 0}, {4, 1, 0}, {-1, 1, 0}, {MIN, 1, 0}, {MAX, 1, 0}, {1, 0, 2}, {1, 4, 2}, {1, -1, 2},
            {2, 16, 2}, {3, 256, 2}, {3, 0, 2}, {3, MIN, 2}, {1, 3, 1}, {1, 3, 3}, {1, 3, 4}, {2, 15, 16}, {2, 15, 1},
            {3, 255, 256}, {3, 255, 1}, {3, 255, 255}, {3, 255, -2}, {3, 255, MIN}, {1, 3, MAX}};
        for (int[] n : none) {
            DUE.is("tells " + n[0] + " " + n[1] + " " + n[2], t.tells(n[0], n[1], n[2]), -1);
        }
        int[][] noFewest = {{0, 0}, {4, 0}, {-1, 2}, {MIN, 0}, {MAX, 0}, {33, 0}, {1, 1}, {1, 4}, {1, -1}, {2, 16}, {2, 3},
            {3, 256}, {3, 1}, {3, MIN}, {3, MAX}};
        for (int[] n : noFewest) {
            DUE.is("fewest " + n[0] + " " + n[1], t.fewest(n[0], n[1]), -1);
        }
    }

    private static void tells(MadeTown t) {
        DUE.is("both ROWS tell one FACTOR", t.tells(1, 3, 2), 1);
        DUE.is("one ROW does not", t.tells(1, 1, 2), 0);
        DUE.is("nor the other", t.tells(1, 2, 2), 0);
        DUE.is("one ROW tells nothing", t.tells(1, 2, 0), 1);
        DUE.is("all four tell all", t.tells(2, 15, 0b1110), 1);
        // ROWS 1 and 2: factors 0 and 1 go against each other; each alone is balanced.
        DUE.is("rows 1, 2 tell factor 0", t.tells(2, 0b0110, 0b0010), 1);
        DUE.is("rows 1, 2 tell factor 1", t.tells(2, 0b0110, 0b0100), 1);
        DUE.is("rows 1, 2 do not tell both apart", t.tells(2, 0b0110, 0b0110), 0);
        DUE.is("rows 1, 2: both together are low in one each", t.tells(2, 0b0110, 0b1000), 0);
        DUE.is("rows 0, 1: both together", t.tells(2, 0b0011, 0b1000), 1);
        DUE.is("three rows", t.tells(2, 0b0111, 0b0010), 0);
        DUE.is("half of eight tells three FACTORS", t.tells(3, 0b01101001, 0b00010110), 1);
        DUE.is("the other half too", t.tells(3, 0b10010110, 0b00010110), 1);
        DUE.is("not with all three together", t.tells(3, 0b01101001, 0b10000010), 0);
        DUE.is("factor 0 as 1 and 2 together", t.tells(3, 0b01101001, 0b01000010), 0);
        DUE.is("all eight tell all", t.tells(3, 255, 254), 1);
        DUE.is("seven do not", t.tells(3, 254, 254), 0);
    }

    private static void fewest(MadeTown t) {
        DUE.is("nothing: the least ROW", t.fewest(3, 0), 1);
        DUE.is("one FACTOR of three: ROWS 0 and 1", t.fewest(3, 0b00000010), 0b00000011);
        DUE.is("FACTOR 1: ROWS 0 and 2", t.fewest(3, 0b00000100), 0b00000101);
        DUE.is("FACTOR 2: ROWS 0 and 4", t.fewest(3, 0b00010000), 0b00010001);
        DUE.is("0 and 1 together: ROWS 0 and 1", t.fewest(3, 0b00001000), 0b00000011);
        DUE.is("1 and 2 together: ROWS 0 and 2", t.fewest(3, 0b01000000), 0b00000101);
        DUE.is("all three together: ROWS 0 and 1", t.fewest(3, 0b10000000), 0b00000011);
        DUE.is("two FACTORS: four ROWS", t.fewest(3, 0b00000110), 0b00001111);
        DUE.is("three FACTORS: 105", t.fewest(3, 0b00010110), 105);
        DUE.is("all: all", t.fewest(3, 254), 255);
        DUE.is("of two, all", t.fewest(2, 14), 15);
        DUE.is("of one", t.fewest(1, 2), 3);
        Model model = new Model();
        for (int k = 1; k <= 3; k++) {
            int effectsEnd = 1 << (1 << k);
            for (int effects = 0; effects < effectsEnd; effects++) {
                DUE.is("fewest " + k + " " + effects, t.fewest(k, effects), model.fewest(k, effects));
                for (int plan = 0; plan < effectsEnd; plan += k < 3 ? 1 : 7) {
                    DUE.is("tells " + k + " " + plan + " " + effects, t.tells(k, plan, effects), model.tells(k, plan, effects));
                }
            }
        }
    }
}
