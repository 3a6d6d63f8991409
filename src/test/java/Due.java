import java.util.NoSuchElementException;
import java.util.function.Supplier;
import java.util.function.ToLongFunction;

/** Counts the answers that are not due, and helps to tell texts to a MadeTown. */
final class Due {
    private int wrong;
    private int asked;

    void is(String call, long got, long want) {
        asked++;
        if (got != want) {
            wrong++;
            System.out.println(call + " answered " + got + ", due is " + want);
        }
    }

    void is(String call, boolean got, boolean want) {
        is(call, got ? 1 : 0, want ? 1 : 0);
    }

    void throwsNone(String call, MadeTown town, int k) {
        boolean thrown = false;
        try {
            town.setting(k);
        } catch (NoSuchElementException e) {
            thrown = true;
        }
        is(call + " throws", thrown, true);
    }

    /** A call that is refused answers what is due and leaves all as it was: a twin that was never asked tells the same. */
    void refused(String call, Supplier<MadeTown> made, ToLongFunction<MadeTown> asked, long want) {
        MadeTown town = made.get();
        is(call, asked.applyAsLong(town), want);
        String left = Whole.told(town);
        String twin = Whole.told(made.get());
        boolean alike = left.equals(twin);
        is(call + " leaves all as it was", alike, true);
        if (!alike) {
            System.out.println(left + "\n-- and the twin:\n" + twin);
        }
    }

    /** Ends the test: exit code 1 if an answer was wrong, or none was asked. */
    void end() {
        System.out.println(asked + " answers, " + wrong + " wrong");
        if (wrong != 0 || asked == 0) {
            System.exit(1);
        }
    }

    /** Feeds a text byte for byte: the last feed's surplus is taken back. */
    static void feed(MadeTown town, String text) {
        int length = text.length();
        for (int from = 0; from < length; from += 20) {
            int[] five = new int[5];
            for (int i = 0; i < 20; i++) {
                int c = from + i < length ? text.charAt(from + i) : ' ';
                five[i / 4] = five[i / 4] << 8 | (c & 255);
            }
            town.feed(five[0], five[1], five[2], five[3], five[4]);
        }
        town.back((20 - length % 20) % 20);
    }

    static int read(MadeTown town, String text) {
        feed(town, text);
        return town.read();
    }

    static MadeTown town(String text) {
        MadeTown town = new MadeTown();
        int fault = read(town, text);
        if (fault != 0) {
            throw new IllegalStateException("fault " + fault + " at " + town.place() + " in: " + text);
        }
        return town;
    }

    /**
     * Reads a WORLD of two ONES who give one another all they have. ONE 0 has 4: by numbers they come back to it within a
     * TICK, but if ONE 1 comes first, it has nothing to give yet.
     */
    static MadeTown giveAndTake(MadeTown town) {
        read(town, "kind a has x = 0; rule give x 9 to near b; end end kind b has x = 0; rule give x 9 to near a; end end");
        town.one(0, 0, 1);
        town.one(1, 0, 1);
        town.begin(0, 0, 4);
        return town;
    }

    /** The first SEED by which ONE 1 comes ahead of ONE 0 in TICK 0, if THE ORDER is dealt. */
    static int seedOfOneFirst(MadeTown town) {
        int seed = 0;
        while (town.lot(seed, 0, 0, 1000, 1000) <= town.lot(seed, 1, 0, 1000, 1000)) {
            seed++;
        }
        return seed;
    }

    /** A text's FAULT is at the mark '@', which is no part of the text. */
    void fault(int number, String marked) {
        MadeTown town = new MadeTown();
        String text = marked.replace("@", "");
        int at = marked.indexOf('@');
        String shown = marked.length() > 120 ? marked.substring(0, 120) + " .." : marked;
        is("read of \"" + shown + "\"", read(town, text), number);
        is("place of \"" + shown + "\"", town.place(), number == 0 ? -1 : at);
    }
}
