public final class Market {
    /** A text is fed twenty bytes at a time; what the last feed has too many is taken back. */
    static int tell(MadeTown town, String text) {
        for (int from = 0; from < text.length(); from += 20) {
            int[] five = new int[5];
            for (int i = 0; i < 20; i++) {
                int c = from + i < text.length() ? text.charAt(from + i) : ' ';
                five[i / 4] = five[i / 4] << 8 | c;
            }
            town.feed(five[0], five[1], five[2], five[3], five[4]);
        }
        town.back((20 - text.length() % 20) % 20);
        return town.read();
    }

    static void show(String what, long answer) {
        System.out.println(what + ": " + answer);
    }

    public static void main(String[] args) {
        MadeTown town = new MadeTown();

        // A faulty text changes nothing; place tells at which byte it goes wrong.
        show("fault", tell(town, "set tax = two;"));             // fault: 1
        show("at byte", town.place());                           // at byte: 10

        show("fault", tell(town, "set tax = 2;"
                + " kind farmer has corn = 5;"
                + "   rule add corn 3; end"
                + "   rule if 6 < corn give corn tax to near lord; end"
                + " end"
                + " kind lord has corn = 0; end"));              // fault: 0
        int farmer = town.one(0, 4, 10);                         // ten farmers in one, at place 4
        int lord = town.one(1, 4, 1);
        show("town", town.count(2));                             // town: 2

        // Runs: a seed (here nothing hangs on it), and behind how many ticks.
        show("farmer's corn", town.state(0, 3, farmer, 0));      // farmer's corn: 10
        show("lord's corn", town.state(0, 3, lord, 0));          // lord's corn: 4
        show("all farmers' corn", town.figure(0, 3, 0, 0));      // all farmers' corn: 100
        show("wishes in tick 1", town.wishes(0, 1, farmer));     // wishes in tick 1: 2

        // What hangs on what the farmer did in tick 1: both ONES (bits), the lord from tick 1 on.
        show("changed", town.changed(0, 3, farmer, 1));          // changed: 3
        show("first", town.first(0, 3, farmer, 1, lord));        // first: 1

        // What another tax adds to the lord's corn: here one cause alone, so there is one order.
        town.cause(0, 5);
        show("share", town.share(0, 0, 3, 1, 0));                // share: 1

        // The lord was seen with 3 to 5 corn behind 3 ticks: by which taxes from 0 to 9 can that be?
        town.seen(3, 1, 0, 3, 5);
        show("points", town.span(0, 0, 9, 1));                   // points: 10
        show("meet", town.meets(1));                             // meet: 2
        show("one tax", town.met(1, 0, 0));                      // one tax: 2
        show("another tax", town.met(1, 1, 0));                  // another tax: 5
        show("untold", town.untold(1));                          // untold: 0

        // With a tax of 9 instead, what has the lord behind 4 ticks at most?
        show("at most", town.would(1, 0, 9, 4, 1, 0, 1));        // at most: 9

        // Which trials of two factors, low or high, tell effects 1 and 2 apart?
        show("plan", town.fewest(2, 6));                         // plan: 15
    }
}
