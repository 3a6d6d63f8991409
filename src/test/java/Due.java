import java.util.NoSuchElementException;

/** Counts the answers that are not due, and helps to tell texts to a MadeTown. */
final class Due {
    private int wrong;
    private int asked;

    void is(String call, long got, long want) {
        asked++;
        if (got != want) {
            wrong++;
            System.out.println(call + " answered " + got + ", due is " + want);
        }
    }

    void is(String call, boolean got, boolean want) {
        is(call, got ? 1 : 0, want ? 1 : 0);
    }

    void throwsNone(String call, MadeTown town, int k) {
        boolean thrown = false;
        try {
            town.setting(k);
        } catch (NoSuchElementException e) {
            thrown = true;
        }
        is(call + " throws", thrown, true);
    }

    /** Ends the test: exit code 1 if an answer was wrong, or none was asked. */
    void end() {
        System.out.println(asked + " answers, " + wrong + " wrong");
        if (wrong != 0 || asked == 0) {
            System.exit(1);
        }
    }

    /** Feeds a text byte for byte: the last feed's surplus is taken back. */
    static void feed(MadeTown town, String text) {
        int length = text.length();
        for (int from = 0; from < length; from += 20) {
            int[] five = new int[5];
            for (int i = 0; i < 20; i++) {
                int c = from + i < length ? text.charAt(from + i) : ' ';
                five[i / 4] = five[i / 4] << 8 | (c & 255);
            }
            town.feed(five[0], five[1], five[2], five[3], five[4]);
        }
        town.back((20 - length % 20) % 20);
    }

    static int read(MadeTown town, String text) {
        feed(town, text);
        return town.read();
    }

    static MadeTown town(String text) {
        MadeTown town = new MadeTown();
        int fault = read(town, text);
        if (fault != 0) {
            throw new IllegalStateException("fault " + fault + " at " + town.place() + " in: " + text);
        }
        return town;
    }

    /** A text's FAULT is at the mark '@', which is no part of the text. */
    void fault(int number, String marked) {
        MadeTown town = new MadeTown();
        String text = marked.replace("@", "");
        int at = marked.indexOf('@');
        String shown = marked.length() > 120 ? marked.substring(0, 120) + " .." : marked;
        is("read of \"" + shown + "\"", read(town, text), number);
        is("place of \"" + shown + "\"", town.place(), number == 0 ? -1 : at);
    }
}
