/** MadeTown against the slow Model: the same calls, made up but always the same ones, must have the same answers. */
public final class ModelTest {
    private static final int TOWNS = 1500;
    private static final int CALLS = 90;

    private final MadeTown town = new MadeTown();
    private final Model model = new Model();
    private final TextMaker maker;
    private final Due due;
    private final long number;
    private int calls;
    private static final int[] FAULTS = new int[7];
    private static int quits;
    private static int changes;
    private static int meets;
    private static int shares;

    private ModelTest(long number, Due due) {
        this.number = number;
        this.due = due;
        maker = new TextMaker(number);
    }

    private void is(String call, long got, long want) {
        calls++;
        due.is("town " + number + ": " + call, got, want);
    }

    private void is(String call, boolean got, boolean want) {
        is(call, got ? 1 : 0, want ? 1 : 0);
    }

    /** Mostly 0 .. most, now and then anything near it or far off. */
    private int arg(int most) {
        if (!maker.chance(4)) {
            return maker.upTo(Math.max(0, Math.min(most, 100000)));
        }
        int[] odd = {-1, most + 1, -2, Integer.MIN_VALUE, Integer.MAX_VALUE, 41, 40, 1 << maker.upTo(31), most + 2};
        return odd[maker.upTo(odd.length - 1)];
    }

    private int seed() {
        return maker.chance(80) ? maker.upTo(3) : maker.random.nextInt();
    }

    private int time() {
        return maker.chance(80) ? arg(6) : arg(40);
    }

    private int number() {
        return maker.chance(70) ? maker.upTo(20) - 5 : maker.chance(50) ? maker.upTo(20002) - 10001 : maker.random.nextInt();
    }

    private void read(int faultPercent) {
        String text = maker.text(faultPercent);
        for (int from = 0; from < text.length(); from += 20) {
            int[] five = new int[5];
            for (int i = 0; i < 20; i++) {
                int c = from + i < text.length() ? text.charAt(from + i) : ' ';
                five[i / 4] = five[i / 4] << 8 | (c & 255);
            }
            is("feed", town.feed(five[0], five[1], five[2], five[3], five[4]), model.feed(five));
        }
        int back = (20 - text.length() % 20) % 20;
        is("back", town.back(back), model.back(back));
        int want = model.read();
        FAULTS[want]++;
        is("read of " + text, town.read(), want);
        is("place of " + text, town.place(), model.faultPlace);
    }

    private void settle() {
        int n = maker.chance(10) ? 21 : 1 + maker.upTo(6);
        int spread = maker.chance(70) ? 1 : 9;
        for (int i = 0; i < n; i++) {
            int kind = arg(model.world.kinds.size() - 1);
            int place = arg(spread);
            int copies = maker.chance(5) ? arg(100) : 1 + maker.upTo(4);
            is("one " + kind + " " + place + " " + copies, town.one(kind, place, copies), model.one(kind, place, copies));
        }
        boolean dealt = maker.chance(50);
        town.order(dealt);
        model.dealt = dealt;
    }

    private int someSetting() {
        return arg(model.settings.length - 1);
    }

    private int someKind() {
        return arg(model.world.kinds.size() - 1);
    }

    private int someVar(int kind) {
        boolean there = kind >= 0 && kind < model.world.kinds.size();
        return arg(there ? model.world.kinds.get(kind).vars.size() - 1 : 2);
    }

    private int kindOf(int one) {
        return model.hasOne(one) ? model.ones.get(one).kind : 0;
    }

    private void call() {
        int one = arg(model.ones.size() - 1);
        int kind = someKind();
        int var = someVar(kind);
        int ownVar = someVar(kindOf(one));
        int t = time();
        int seed = seed();
        String at = " seed " + seed + " t " + t + " one " + one + " kind " + kind + " var " + var + " own var " + ownVar;
        switch (maker.upTo(19)) {
            case 0: case 1: case 2:
                is("state" + at, town.state(seed, t, one, ownVar), model.state(seed, t, one, ownVar));
                break;
            case 3: case 4:
                int place = model.at(seed, t, one);
                quits += place == -2 ? 1 : 0;
                is("at" + at, town.at(seed, t, one), place);
                break;
            case 5:
                is("figure" + at, town.figure(seed, t, kind, var), model.figure(seed, t, kind, var));
                break;
            case 6:
                is("wishes" + at, town.wishes(seed, t, one), model.wishes(seed, t, one));
                break;
            case 7: case 8:
                int tick = arg(t - 1);
                int bits = model.changed(seed, t, one, tick);
                changes += bits > 0 ? 1 : 0;
                is("changed " + tick + at, town.changed(seed, t, one, tick), bits);
                break;
            case 9: case 10:
                int when = arg(t - 1);
                int other = arg(model.ones.size() - 1);
                is("first " + when + " " + other + at, town.first(seed, t, one, when, other),
                        model.first(seed, t, one, when, other));
                break;
            case 11:
                int begin = number();
                is("begin " + begin + at, town.begin(one, ownVar, begin), model.begin(one, ownVar, begin));
                break;
            case 12:
                int setting = someSetting();
                int v = number();
                is("set " + setting + " " + v, town.set(setting, v), model.set(setting, v));
                break;
            default:
                rarer(seed, t, kind, var, at);
        }
    }

    private void rarer(int seed, int t, int kind, int var, String at) {
        int setting = someSetting();
        int v = number();
        switch (maker.upTo(13)) {
            case 0:
                int what = maker.upTo(30) - 2;
                is("count " + what, town.count(what), model.count(what));
                break;
            case 1: case 2:
                is("cause " + setting + " " + v, town.cause(setting, v), model.cause(setting, v));
                break;
            case 3:
                is("clear", town.clear(), model.clear());
                break;
            case 4: case 5:
                causes(seed, t, kind, var);
                break;
            case 6:
                boolean known = model.hasSetting(setting);
                is("hasSetting " + setting, known ? town.setting(setting) : 0, known ? model.settings[setting] : 0);
                break;
            case 7:
                int which = arg(1000);
                int n = maker.chance(50) ? arg(10) : arg(9999);
                int one = arg(19);
                is("lot " + seed + " " + one + " " + t + " " + which + " " + n, town.lot(seed, one, t, which, n),
                        model.lot(seed, one, t, which, n));
                break;
            case 8:
                int k = maker.chance(90) ? 1 + maker.upTo(2) : arg(4);
                int effects = maker.chance(70) ? 2 * arg((1 << (1 << (k & 3)) - 1) - 1) : arg(256);
                int plan = maker.chance(50) ? (1 << (1 << (k & 3))) - 1 : arg(256);
                is("tells " + k + " " + plan + " " + effects, town.tells(k, plan, effects), model.tells(k, plan, effects));
                is("fewest " + k + " " + effects, town.fewest(k, effects), model.fewest(k, effects));
                break;
            case 9:
                if (maker.chance(50)) {
                    boolean dealt = maker.chance(50);
                    town.order(dealt);
                    model.dealt = dealt;
                } else {
                    int newKind = someKind();
                    int place = arg(9);
                    is("one", town.one(newKind, place, 2), model.one(newKind, place, 2));
                }
                break;
            default:
                grid(setting, v, t, kind, var);
        }
    }

    private void causes(int seed, int t, int kind, int var) {
        for (int i = maker.upTo(3); i >= 0; i--) {
            int setting = someSetting();
            int v = number();
            is("cause " + setting + " " + v, town.cause(setting, v), model.cause(setting, v));
        }
        for (int i = -1; i < model.causes.size() + 1; i++) {
            long share = model.share(i, seed, t, kind, var);
            shares += share != 0 && share > -1000000000000L ? 1 : 0;
            is("share " + i + " seed " + seed + " t " + t + " " + kind + " " + var, town.share(i, seed, t, kind, var), share);
        }
        if (maker.chance(50)) {
            is("clear", town.clear(), model.clear());
        }
    }

    private void grid(int setting, int v, int t, int kind, int var) {
        if (maker.chance(40)) {
            int figure = model.figure(0, t, kind, var);
            int low = figure - maker.upTo(maker.chance(50) ? 5 : 300);
            int high = figure + maker.upTo(maker.chance(50) ? 5 : 300) - (maker.chance(5) ? 400 : 0);
            is("seen " + t + " " + kind + " " + var + " " + low + " " + high, town.seen(t, kind, var, low, high),
                    model.seen(t, kind, var, low, high));
        }
        if (maker.chance(50)) {
            int to = maker.chance(90) ? v + maker.upTo(7) : number();
            int step = maker.chance(90) ? 1 + maker.upTo(3) : number();
            is("span " + setting + " " + v + " " + to + " " + step, town.span(setting, v, to, step),
                    model.span(setting, v, to, step));
        }
        int s = maker.chance(90) ? 1 + maker.upTo(1) : arg(4);
        int m = model.meets(s);
        meets += m > 0 && model.seen.size() > 0 && model.spans.size() > 0 ? 1 : 0;
        is("meets " + s, town.meets(s), m);
        int i = arg(m - 1);
        int span = arg(model.spans.size() - 1);
        is("met " + s + " " + i + " " + span, town.met(s, i, span), model.met(s, i, span));
        is("untold " + s, town.untold(s), model.untold(s));
        for (int what = -1; what <= 3; what++) {
            is("would " + s + " " + setting + " " + v + " " + t + " " + kind + " " + var + " " + what,
                    town.would(s, setting, v, t, kind, var, what), model.would(s, setting, v, t, kind, var, what));
        }
    }

    private void run() {
        read(maker.chance(80) ? 0 : 60);
        settle();
        while (calls < CALLS) {
            call();
            if (maker.chance(1)) {
                read(50);
            }
        }
        for (int k = 0; k < model.settings.length; k++) {
            is("setting " + k, town.setting(k), model.settings[k]);
        }
        for (int what = -1; what < 27; what++) {
            is("count " + what, town.count(what), model.count(what));
        }
    }

    public static void main(String[] args) {
        Due due = new Due();
        int from = args.length > 0 ? Integer.parseInt(args[0]) : 0;
        int to = args.length > 1 ? Integer.parseInt(args[1]) : TOWNS;
        for (int i = from; i < to; i++) {
            new ModelTest(i, due).run();
        }
        // Texts alone, mostly with faults.
        for (int i = from; i < to; i++) {
            ModelTest texts = new ModelTest(1000000L + i, due);
            for (int n = 0; n < 4; n++) {
                texts.read(90);
            }
        }
        StringBuilder told = new StringBuilder("faults 0 .. 6:");
        for (int n : FAULTS) {
            told.append(' ').append(n);
            due.is("faults of each number are tried", n > 0, true);
        }
        System.out.println(told + "; quits " + quits + ", changes " + changes + ", meets " + meets + ", shares " + shares);
        due.is("quits, changes, meets and shares are tried", Math.min(Math.min(quits, changes), Math.min(meets, shares)) > 20, true);
        due.end();
    }
}
