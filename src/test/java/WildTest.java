import java.util.NoSuchElementException;
import java.util.Random;

/** Whatever is called with whatever, nothing is thrown but by setting, and nothing of what is there is lost by it. */
public final class WildTest {
    private static final int OBJECTS = 3000;
    private static final int[] ODD = {0, 1, -1, 2, 3, 5, 6, 9, 10, 19, 20, 39, 40, 41, 99, 100, 200, 1000, 1001, 9999, 10000,
        -9999, -10000, -2, 255, 256, Integer.MIN_VALUE, Integer.MAX_VALUE, Integer.MIN_VALUE + 1, 1 << 16};

    private final TextMaker maker;
    private final Random random;
    private final MadeTown town = new MadeTown();

    private WildTest(long number) {
        maker = new TextMaker(number);
        random = maker.random;
    }

    private int any() {
        int how = random.nextInt(10);
        return how < 6 ? random.nextInt(4) : how < 9 ? ODD[random.nextInt(ODD.length)] : random.nextInt();
    }

    private void texts() {
        int how = random.nextInt(4);
        town.back(town.count(6));
        if (how == 0) {
            for (int i = random.nextInt(110); i > 0; i--) {
                town.feed(random.nextInt(), random.nextInt(), any(), any(), any());
            }
        } else if (how == 1) {
            String text = maker.text(0);
            Due.feed(town, text);
            town.back(random.nextInt(text.length() + 3));
        } else {
            Due.feed(town, maker.text(how == 2 ? 0 : 80));
        }
        town.read();
    }

    private boolean call(int which) {
        switch (which) {
            case 0: town.feed(any(), any(), any(), any(), any()); break;
            case 1: town.back(any()); break;
            case 2: town.place(); break;
            case 3: town.set(any(), any()); break;
            case 4:
                int k = any();
                boolean known = k >= 0 && k < town.count(0);
                try {
                    town.setting(k);
                    return known;
                } catch (NoSuchElementException e) {
                    return !known;
                }
            case 5: town.one(any(), any(), any()); break;
            case 6: town.begin(any(), any(), any()); break;
            case 7: town.order(random.nextBoolean()); break;
            case 8: town.lot(any(), any(), any(), any(), any()); break;
            case 9: town.state(any(), any(), any(), any()); break;
            case 10: town.at(any(), any(), any()); break;
            case 11: town.figure(any(), any(), any(), any()); break;
            case 12: town.wishes(any(), any(), any()); break;
            case 13: town.changed(any(), any(), any(), any()); break;
            case 14: town.first(any(), any(), any(), any(), any()); break;
            case 15: town.cause(any(), any()); break;
            case 16: return town.count(3) == town.clear();
            case 17: town.share(any(), any(), any(), any(), any()); break;
            case 18: town.seen(any(), any(), any(), any(), any()); break;
            case 19: town.span(any(), any(), any(), any()); break;
            case 20: town.meets(any()); break;
            case 21: town.met(any(), any(), any()); break;
            case 22: town.untold(any()); break;
            case 23: town.would(any(), any(), any(), any(), any(), any(), any()); break;
            case 24: town.tells(any(), any(), any()); break;
            case 25: town.fewest(any(), any()); break;
            case 26: town.count(any()); break;
            default: texts();
        }
        return true;
    }

    public static void main(String[] args) {
        Due due = new Due();
        for (int i = 0; i < OBJECTS; i++) {
            WildTest wild = new WildTest(5000L + i);
            wild.texts();
            for (int n = 0; n < 512; n++) {
                int which = wild.random.nextInt(wild.random.nextInt(8) == 0 ? 28 : 27);
                try {
                    due.is("object " + i + " call " + n + " of " + which, wild.call(which), true);
                } catch (RuntimeException e) {
                    due.is("object " + i + " call " + n + " of " + which + " threw " + e, true, false);
                }
            }
        }
        due.end();
    }
}
