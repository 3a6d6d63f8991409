import java.util.NoSuchElementException;

/** A bench for towns of made people; ../shared/DOC.md tells what each call answers. */
public final class MadeTown {
    public static final int NONE = -1;

    private static final int NEVER = -2;
    private static final int NO_NUMBER = -1000000;
    private static final int NO_FIGURE = -1000000000;
    private static final long NO_SHARE = -1000000000000L;

    private static final int MOST_BYTES = 2000;
    private static final int MOST_TOKENS = 500;
    private static final int MOST_LETTERS = 8;
    private static final int MOST_DIGITS = 4;
    private static final int MOST_SETTINGS = 6;
    private static final int MOST_KINDS = 5;
    private static final int MOST_VARS = 6;
    private static final int MOST_RULES = 8;
    private static final int MOST_WISHES = 6;
    private static final int MOST_OPEN = 6;
    private static final int MOST_ONES = 20;
    private static final int MOST_COPIES = 99;
    private static final int PLACES = 10;
    private static final int MOST_TICKS = 40;
    private static final int MOST_NUMBER = 9999;
    private static final int ORDER_LOT = 1000;
    private static final int MOST_CAUSES = 4;
    private static final int MOST_SEEN = 8;
    private static final int MOST_SPANS = 3;
    private static final int MOST_POINTS = 200;
    private static final int MOST_SEEDS = 3;
    private static final int MOST_FACTORS = 3;

    private static final int SYNTAX = 1;
    private static final int ROOM = 2;
    private static final int TWICE = 3;
    private static final int NO_NAME = 4;
    private static final int WRONG = 5;
    private static final int KNOWS = 6;

    // The words' numbers are their places in WORDS; the same numbers are the operations of a KIND's code.
    private static final String WORDS =
            "set kind end has secret rule if add go give to near pick quit or and not tick here place lot sum all ";
    private static final int SET = 0;
    private static final int KIND = 1;
    private static final int END = 2;
    private static final int HAS = 3;
    private static final int SECRET = 4;
    private static final int RULE = 5;
    private static final int IF = 6;
    private static final int ADD = 7;
    private static final int GO = 8;
    private static final int GIVE = 9;
    private static final int TO = 10;
    private static final int NEAR = 11;
    private static final int PICK = 12;
    private static final int QUIT = 13;
    private static final int OR = 14;
    private static final int AND = 15;
    private static final int NOT = 16;
    private static final int TICK = 17;
    private static final int HERE = 18;
    private static final int PLACE = 19;
    private static final int LOT = 20;
    private static final int SUM = 21;
    private static final int ALL = 22;
    private static final int WORD_COUNT = 23;
    private static final int NAME = 23;
    private static final int INT = 24;
    private static final int SEMICOLON = 25;
    private static final int EQUALS = 26;
    private static final int PLUS = 27;
    private static final int MINUS = 28;
    private static final int TIMES = 29;
    private static final int OVER = 30;
    private static final int SAME = 31;
    private static final int UNLIKE = 32;
    private static final int LESS = 33;
    private static final int UP_TO = 34;
    private static final int OPEN = 35;
    private static final int CLOSE = 36;
    private static final int TEXT_END = 37;
    private static final int NO_TOKEN = 38;
    private static final int VAR = 39;
    private static final int SETTING = 40;

    private final Tape tape;
    private final Reader reader;
    private final Checker checker;
    private World world;
    private World draft;
    private int faultPlace;
    private final Town town;
    private final Wishes chosen;
    private final Run run;
    private final Run twin;
    private final int[] firstChange;
    private final Causes causes;
    private final Grid grid;

    public MadeTown() {
        tape = new Tape();
        world = new World();
        draft = new World();
        reader = new Reader(tape, draft);
        checker = new Checker(tape, draft);
        faultPlace = NONE;
        town = new Town(world);
        chosen = new Wishes();
        Chooser chooser = new Chooser(town, chosen);
        run = new Run(town, chooser, chosen);
        twin = new Run(town, chooser, chosen);
        firstChange = new int[MOST_ONES];
        causes = new Causes(town, run);
        grid = new Grid(town, run);
    }

    public int feed(int a, int b, int c, int d, int e) {
        if (tape.length + 20 > MOST_BYTES) {
            return NONE;
        }
        tape.append(a);
        tape.append(b);
        tape.append(c);
        tape.append(d);
        tape.append(e);
        return tape.length;
    }

    public int back(int n) {
        if (n < 0 || n > tape.length) {
            return NONE;
        }
        tape.length -= n;
        return tape.length;
    }

    public int read() {
        tape.scan();
        int fault = reader.parse(draft);
        faultPlace = reader.faultPlace();
        if (fault == 0) {
            fault = checker.check(draft);
            faultPlace = checker.faultPlace();
        }
        tape.length = 0;
        if (fault == 0) {
            World old = world;
            world = draft;
            draft = old;
            town.moveTo(world);
            causes.size = 0;
            grid.empty();
        }
        return fault;
    }

    public int place() {
        return faultPlace;
    }

    public boolean set(int setting, int v) {
        return town.putSetting(setting, v);
    }

    public int setting(int k) throws NoSuchElementException {
        if (!world.hasSetting(k)) {
            throw new NoSuchElementException("no such SETTING");
        }
        return town.settings[k];
    }

    public int one(int kind, int place, int copies) {
        return town.addOne(kind, place, copies);
    }

    public boolean begin(int one, int var, int v) {
        return town.putBegin(one, var, v);
    }

    public void order(boolean dealt) {
        town.dealOrder(dealt);
    }

    public int lot(int seed, int one, int tick, int which, int n) {
        boolean none = one < 0 || one >= MOST_ONES || !isTick(tick) || which < 0 || which > ORDER_LOT
                || n < 1 || n > MOST_NUMBER;
        return none ? NONE : dealLot(seed, one, tick, which, n);
    }

    public int state(int seed, int t, int one, int var) {
        if (!isTime(t) || !town.oneHasVar(one, var)) {
            return NO_NUMBER;
        }
        run.goPlain(seed, t);
        return run.vars[one * MOST_VARS + var];
    }

    public int at(int seed, int t, int one) {
        if (!isTime(t) || !town.hasOne(one)) {
            return NONE;
        }
        run.goPlain(seed, t);
        return run.gone[one] ? NEVER : run.spot[one];
    }

    public int figure(int seed, int t, int kind, int var) {
        if (!isTime(t) || !world.hasVar(kind, var)) {
            return NO_FIGURE;
        }
        run.goPlain(seed, t);
        return run.total(kind, var);
    }

    public int wishes(int seed, int tick, int one) {
        if (!isTick(tick) || !town.hasOne(one)) {
            return NONE;
        }
        run.goPlain(seed, tick + 1);
        return chosen.size[one];
    }

    public int changed(int seed, int t, int one, int tick) {
        if (!canUndo(t, one, tick)) {
            return NONE;
        }
        undo(seed, t, one, tick);
        int bits = 0;
        for (int i = 0; i < town.size; i++) {
            if (firstChange[i] >= 0) {
                bits |= 1 << i;
            }
        }
        return bits;
    }

    public int first(int seed, int t, int one, int tick, int other) {
        if (!canUndo(t, one, tick) || !town.hasOne(other)) {
            return NONE;
        }
        undo(seed, t, one, tick);
        return firstChange[other];
    }

    public int cause(int setting, int v) {
        return causes.tell(setting, v);
    }

    public int clear() {
        int had = causes.size;
        causes.size = 0;
        return had;
    }

    public long share(int cause, int seed, int t, int kind, int var) {
        if (cause < 0 || cause >= causes.size || !isTime(t) || !world.hasVar(kind, var)) {
            return NO_SHARE;
        }
        return causes.sumOverOrders(cause, seed, t, kind, var);
    }

    public int seen(int t, int kind, int var, int low, int high) {
        if (!isTime(t) || !world.hasVar(kind, var) || low > high) {
            return NONE;
        }
        return grid.tellSeen(t, kind, var, low, high);
    }

    public int span(int setting, int a, int b, int step) {
        return grid.tellSpan(setting, a, b, step);
    }

    public int meets(int s) {
        if (!isSeeds(s)) {
            return NONE;
        }
        grid.trySeeds(s);
        return grid.countMeeting(s);
    }

    public int met(int s, int i, int span) {
        if (!isSeeds(s) || i < 0 || span < 0 || span >= grid.spanCount) {
            return NO_NUMBER;
        }
        grid.trySeeds(s);
        int point = grid.meetingPoint(s, i);
        return point < 0 ? NO_NUMBER : grid.number(point, span);
    }

    public int untold(int s) {
        if (!isSeeds(s)) {
            return NONE;
        }
        grid.trySeeds(s);
        return grid.untoldSpans(s);
    }

    public int would(int s, int setting, int v, int t, int kind, int var, int what) {
        if (!isSeeds(s) || !world.hasSetting(setting) || !isNumber(v) || !isTime(t) || !world.hasVar(kind, var)) {
            return NO_FIGURE;
        }
        if (what < 0 || what > 2) {
            return NO_FIGURE;
        }
        grid.trySeeds(s);
        int kindVar = kind * MOST_VARS + var;
        return what == 2 ? grid.countMore(s, setting, v, t, kindVar)
                : grid.outermost(s, setting, v, t, kindVar, what == 1);
    }

    public int tells(int k, int plan, int effects) {
        if (!Plans.hasEffects(k, effects) || !Plans.hasPlan(k, plan)) {
            return NONE;
        }
        return Plans.isTelling(k, plan, effects) ? 1 : 0;
    }

    public int fewest(int k, int effects) {
        return Plans.hasEffects(k, effects) ? Plans.fewestRows(k, effects) : NONE;
    }

    public int count(int what) {
        if (world.hasKind(what - 10)) {
            return world.varCount[what - 10];
        }
        if (world.hasKind(what - 20)) {
            return world.ruleCount[what - 20];
        }
        switch (what) {
            case 0: return world.settingCount;
            case 1: return world.kindCount;
            case 2: return town.size;
            case 3: return causes.size;
            case 4: return grid.seenCount;
            case 5: return grid.spanCount;
            case 6: return tape.length;
            default: return NONE;
        }
    }

    private static boolean isTime(int t) {
        return t >= 0 && t <= MOST_TICKS;
    }

    private static boolean isTick(int tick) {
        return tick >= 0 && tick < MOST_TICKS;
    }

    private static boolean isSeeds(int s) {
        return s >= 1 && s <= MOST_SEEDS;
    }

    private static boolean isNumber(int v) {
        return v >= -MOST_NUMBER && v <= MOST_NUMBER;
    }

    private boolean canUndo(int t, int one, int tick) {
        return isTime(t) && tick >= 0 && tick < t && town.hasOne(one);
    }

    /** Tells in firstChange for each ONE the first TICK behind which it is CHANGED, or NEVER. */
    private void undo(int seed, int t, int one, int tick) {
        run.restart(seed);
        twin.restart(seed);
        for (int i = 0; i < town.size; i++) {
            firstChange[i] = NEVER;
        }
        for (int now = 0; now < t; now++) {
            run.step(NONE);
            twin.step(now == tick ? one : NONE);
            for (int i = 0; i < town.size; i++) {
                if (firstChange[i] == NEVER && run.differs(twin, i)) {
                    firstChange[i] = now;
                }
            }
        }
    }

    private static int dealLot(int seed, int one, int tick, int which, int n) {
        int h = seed;
        for (int i = 0; i < 3; i++) {
            int it = i == 0 ? one : i == 1 ? tick : which;
            h = (h ^ it) * 1103515245 + 12345;
            h ^= h >>> 15;
        }
        return n < 1 ? 0 : (h >>> 1) % n;
    }

    private static int cell(int[] row, int i) {
        return i >= 0 && i < row.length ? row[i] : 0;
    }

    /** The bytes told so far, and the TOKENS that they are. */
    private static final class Tape {
        private static final int LETTER_BITS = 5;

        final int[] bytes = new int[MOST_BYTES];
        int length;
        // One TOKEN more than there is room for, and the text's end behind it.
        final int[] kinds = new int[MOST_TOKENS + 2];
        final int[] places = new int[MOST_TOKENS + 2];
        final long[] values = new long[MOST_TOKENS + 2];
        int size;
        final long[] words = new long[WORD_COUNT];

        Tape() {
            int word = 0;
            long packed = 0;
            for (int i = 0; i < WORDS.length(); i++) {
                char c = WORDS.charAt(i);
                if (c != ' ') {
                    packed = pack(packed, c);
                } else if (word < words.length) {
                    words[word] = packed;
                    word++;
                    packed = 0;
                }
            }
        }

        private static long pack(long packed, int letter) {
            return (packed << LETTER_BITS) + (letter - 'a' + 1);
        }

        void append(int four) {
            for (int moved = 24; moved >= 0 && length < bytes.length; moved -= 8) {
                bytes[length] = (four >>> moved) & 255;
                length++;
            }
        }

        int placeOf(int token) {
            return token >= 0 && token < places.length ? places[token] : length;
        }

        /** A NAME's letters, packed so that like NAMES have like numbers; an INT's number. */
        long valueOf(int token) {
            return token >= 0 && token < values.length ? values[token] : 0;
        }

        void scan() {
            size = 0;
            int from = 0;
            while (from < length && size <= MOST_TOKENS) {
                int behind = isBlank(byteAt(from)) ? from : scanToken(from);
                from = Math.max(from + 1, behind);
            }
            kinds[size] = TEXT_END;
            places[size] = length;
        }

        private int byteAt(int i) {
            return i >= 0 && i < length && i < bytes.length ? bytes[i] : NONE;
        }

        private static boolean isBlank(int c) {
            return c == 9 || c == 10 || c == 13 || c == 32;
        }

        private static boolean isLetter(int c) {
            return c >= 'a' && c <= 'z';
        }

        private static boolean isDigit(int c) {
            return c >= '0' && c <= '9';
        }

        /** Keeps the TOKEN from a byte on, and answers the byte behind it. */
        private int scanToken(int from) {
            int c = byteAt(from);
            if (isLetter(c)) {
                return scanLetters(from);
            }
            if (isDigit(c)) {
                return scanDigits(from);
            }
            boolean doubled = byteAt(from + 1) == '=';
            int sign = doubled ? doubleSign(c) : NO_TOKEN;
            int taken = sign == NO_TOKEN ? 1 : 2;
            keep(sign == NO_TOKEN ? singleSign(c) : sign, from, 0);
            return from + taken;
        }

        private int scanLetters(int from) {
            int to = from;
            long packed = 0;
            while (to < length && isLetter(byteAt(to))) {
                packed = pack(packed, byteAt(to));
                to++;
            }
            keep(to - from > MOST_LETTERS ? NO_TOKEN : wordOrName(packed), from, packed);
            return to;
        }

        private int scanDigits(int from) {
            int to = from;
            long number = 0;
            while (to < length && isDigit(byteAt(to))) {
                number = number * 10 + (byteAt(to) - '0');
                to++;
            }
            keep(to - from > MOST_DIGITS ? NO_TOKEN : INT, from, number);
            return to;
        }

        private int wordOrName(long packed) {
            for (int i = 0; i < words.length; i++) {
                if (words[i] == packed) {
                    return i;
                }
            }
            return NAME;
        }

        private static int doubleSign(int c) {
            switch (c) {
                case '=': return SAME;
                case '!': return UNLIKE;
                case '<': return UP_TO;
                default: return NO_TOKEN;
            }
        }

        private static int singleSign(int c) {
            switch (c) {
                case ';': return SEMICOLON;
                case '=': return EQUALS;
                case '+': return PLUS;
                case '-': return MINUS;
                case '*': return TIMES;
                case '/': return OVER;
                case '<': return LESS;
                case '(': return OPEN;
                case ')': return CLOSE;
                default: return NO_TOKEN;
            }
        }

        private void keep(int kind, int from, long value) {
            if (size <= MOST_TOKENS) {
                kinds[size] = kind;
                places[size] = from;
                values[size] = value;
                size++;
            }
        }
    }

    /** What a TEXT tells: SETTINGS, KINDS, their VARS, and their RULES as code to be worked out in order. */
    private static final class World {
        int settingCount;
        final int[] settingBegins = new int[MOST_SETTINGS];
        final int[] settingTokens = new int[MOST_SETTINGS];
        int kindCount;
        final int[] kindTokens = new int[MOST_KINDS];
        final int[] varCount = new int[MOST_KINDS];
        final int[] ruleCount = new int[MOST_KINDS];
        // The VARS of KIND k stand from k * MOST_VARS on.
        final int[] varBegins = new int[MOST_KINDS * MOST_VARS];
        final int[] varTokens = new int[MOST_KINDS * MOST_VARS];
        final boolean[] varSecret = new boolean[MOST_KINDS * MOST_VARS];
        final int[] codeFrom = new int[MOST_KINDS];
        final int[] codeTo = new int[MOST_KINDS];
        int codeSize;
        boolean counts;
        final int[] operation = new int[MOST_TOKENS];
        final int[] left = new int[MOST_TOKENS];
        final int[] right = new int[MOST_TOKENS];

        void empty() {
            settingCount = 0;
            kindCount = 0;
            codeSize = 0;
            counts = false;
        }

        boolean hasSetting(int i) {
            return i >= 0 && i < settingCount;
        }

        boolean hasKind(int kind) {
            return kind >= 0 && kind < kindCount;
        }

        boolean hasVar(int kind, int var) {
            return hasKind(kind) && var >= 0 && var < varCount[kind];
        }

        void addSetting(int token, int number) {
            if (settingCount < MOST_SETTINGS) {
                settingTokens[settingCount] = token;
                settingBegins[settingCount] = number;
                settingCount++;
            }
        }

        void addKind(int token) {
            if (kindCount < MOST_KINDS) {
                kindTokens[kindCount] = token;
                varCount[kindCount] = 0;
                ruleCount[kindCount] = 0;
                codeFrom[kindCount] = codeSize;
                codeTo[kindCount] = codeSize;
                kindCount++;
            }
        }

        void addVar(int kind, int token, int number, boolean secret) {
            if (hasKind(kind) && varCount[kind] < MOST_VARS) {
                int var = kind * MOST_VARS + varCount[kind];
                varTokens[var] = token;
                varBegins[var] = number;
                varSecret[var] = secret;
                varCount[kind]++;
            }
        }

        void emit(int what, int a, int b) {
            if (codeSize < operation.length) {
                operation[codeSize] = what;
                left[codeSize] = a;
                right[codeSize] = b;
                codeSize++;
            }
            counts = counts || what == HERE || what == SUM || what == ALL;
        }

        /** The operations of one sort in a stretch of code go on at a target. */
        private void aim(int least, int most, int from, int to, int target) {
            for (int i = Math.max(from, 0); i < to && i < codeSize; i++) {
                if (operation[i] >= least && operation[i] <= most) {
                    right[i] = target;
                }
            }
        }

        /** LITS that do not hold go on at a target. */
        void aimTests(int from, int to, int target) {
            aim(SAME, UP_TO, from, to, target);
        }

        /** Each 'or', which is reached only when the LITS ahead of it hold, goes on at a target. */
        void aimOrs(int from, int to, int target) {
            aim(OR, OR, from, to, target);
        }
    }

    /** Goes through the TOKENS by the grammar, finds FAULTS 1 and 2, and writes down a WORLD without its NAMES. */
    private static final class Reader {
        // Within six brackets no more than two signs a level wait for what is on their right.
        private static final int MOST_WAITING = 3 * (MOST_OPEN + 1);

        private final Tape tape;
        private World world;
        private int token;
        private int fault;
        private int kind;
        private final int[] waiting = new int[MOST_WAITING];
        private int waitingCount;

        Reader(Tape tape, World draft) {
            this.tape = tape;
            world = draft;
        }

        int parse(World draft) {
            world = draft;
            world.empty();
            token = 0;
            fault = 0;
            kind = 0;
            for (int i = 0; i <= MOST_SETTINGS && next() == SET; i++) {
                parseSetting();
            }
            for (int i = 0; i <= MOST_KINDS && next() == KIND; i++) {
                openKind();
                for (int j = 0; j <= MOST_VARS && (next() == HAS || next() == SECRET); j++) {
                    parseHas();
                }
                for (int j = 0; j <= MOST_RULES && next() == RULE; j++) {
                    parseRule();
                }
                take(END);
                world.codeTo[kind] = world.codeSize;
            }
            if (fault == 0 && next() != TEXT_END) {
                fault = SYNTAX;
            }
            return fault;
        }

        int faultPlace() {
            return fault == 0 ? NONE : tape.placeOf(token);
        }

        /** The next TOKEN's kind; with a FAULT nothing goes on any more. */
        private int next() {
            return fault == 0 && token < tape.kinds.length ? tape.kinds[token] : NO_TOKEN;
        }

        /** Goes behind the next TOKEN, which it answers, if it is the one wanted; a FAULT stays at its TOKEN. */
        private int take(int wanted) {
            int taken = token;
            if (fault == 0) {
                if (next() != wanted) {
                    fault = SYNTAX;
                } else if (token >= MOST_TOKENS) {
                    fault = ROOM;
                } else {
                    token++;
                }
            }
            return taken;
        }

        private void needRoom(int there, int most) {
            if (fault == 0 && there >= most) {
                fault = ROOM;
            }
        }

        private void parseSetting() {
            needRoom(world.settingCount, MOST_SETTINGS);
            take(SET);
            int name = take(NAME);
            take(EQUALS);
            int number = take(INT);
            take(SEMICOLON);
            if (fault == 0) {
                world.addSetting(name, (int) tape.valueOf(number));
            }
        }

        private void openKind() {
            needRoom(world.kindCount, MOST_KINDS);
            take(KIND);
            int name = take(NAME);
            if (fault == 0) {
                kind = world.kindCount;
                world.addKind(name);
            }
        }

        private void parseHas() {
            needRoom(world.varCount[kind], MOST_VARS);
            boolean secret = next() == SECRET;
            take(secret ? SECRET : HAS);
            int name = take(NAME);
            take(EQUALS);
            boolean minus = next() == MINUS;
            if (minus) {
                take(MINUS);
            }
            int number = (int) tape.valueOf(take(INT));
            take(SEMICOLON);
            if (fault == 0) {
                world.addVar(kind, name, minus ? -number : number, secret);
            }
        }

        private void parseRule() {
            needRoom(world.ruleCount[kind], MOST_RULES);
            take(RULE);
            int from = world.codeSize;
            int lastAll = from;
            if (next() == IF) {
                take(IF);
                parseLit();
                for (int i = 0; i < MOST_TOKENS && (next() == AND || next() == OR); i++) {
                    int joint = next();
                    take(joint);
                    if (joint == OR) {
                        world.emit(OR, 0, 0);
                        world.aimTests(lastAll, world.codeSize, world.codeSize);
                        lastAll = world.codeSize;
                    }
                    parseLit();
                }
            }
            int body = world.codeSize;
            world.aimOrs(from, body, body);
            for (int i = 0; i <= MOST_WISHES && isWish(next()); i++) {
                needRoom(i, MOST_WISHES);
                parseWish();
            }
            take(END);
            // Only here the place is known where LITS of the last ALL go on that do not hold.
            world.aimTests(lastAll, body, world.codeSize);
            if (fault == 0) {
                world.ruleCount[kind]++;
            }
        }

        private static boolean isWish(int what) {
            return what == ADD || what == GO || what == GIVE || what == QUIT;
        }

        private void parseLit() {
            int nots = 0;
            for (int i = 0; i < MOST_TOKENS && next() == NOT; i++) {
                take(NOT);
                nots++;
            }
            parseE();
            int test = next();
            take(test >= SAME && test <= UP_TO ? test : SAME);
            parseE();
            world.emit(test, nots & 1, 0);
        }

        private void parseWish() {
            int wish = next();
            int name = take(wish);
            int to = name;
            if (wish == ADD || wish == GIVE) {
                name = take(NAME);
            }
            if (wish != QUIT) {
                parseE();
            }
            if (wish == GIVE) {
                take(TO);
                wish = next() == PICK ? PICK : NEAR;
                take(wish);
                to = take(NAME);
            }
            take(SEMICOLON);
            world.emit(wish, name, to);
        }

        /** Writes the signs of an E behind what they join; brackets are counted, so that none needs calls within calls. */
        private void parseE() {
            int open = 0;
            waitingCount = 0;
            for (int i = 0; i < MOST_TOKENS && fault == 0; i++) {
                for (int j = 0; j <= MOST_OPEN && next() == OPEN; j++) {
                    needRoom(open, MOST_OPEN);
                    take(OPEN);
                    await(OPEN);
                    open++;
                }
                parseUnit();
                for (int j = 0; j <= MOST_OPEN && open > 0 && next() == CLOSE; j++) {
                    take(CLOSE);
                    emitWaiting(PLUS);
                    waitingCount = Math.max(waitingCount - 1, 0);
                    open--;
                }
                int sign = next();
                if (sign < PLUS || sign > OVER) {
                    break;
                }
                emitWaiting(sign);
                take(sign);
                await(sign);
            }
            if (fault == 0 && open > 0) {
                fault = SYNTAX;
            }
            emitWaiting(PLUS);
        }

        private void await(int sign) {
            if (waitingCount < waiting.length) {
                waiting[waitingCount] = sign;
                waitingCount++;
            }
        }

        /** Writes the signs that bind no less than a sign to come, back to the last open bracket. */
        private void emitWaiting(int sign) {
            while (waitingCount > 0 && waitingCount <= waiting.length) {
                int last = waiting[waitingCount - 1];
                boolean binds = last >= TIMES || sign <= MINUS;
                if (last == OPEN || !binds) {
                    return;
                }
                world.emit(last, 0, 0);
                waitingCount--;
            }
        }

        private void parseUnit() {
            int unit = next();
            switch (unit) {
                case INT:
                    world.emit(INT, (int) tape.valueOf(take(INT)), 0);
                    break;
                case NAME: case TICK: case HERE: case PLACE:
                    world.emit(unit, take(unit), 0);
                    break;
                case LOT:
                    take(LOT);
                    world.emit(LOT, take(INT), 0);
                    break;
                case ALL:
                    take(ALL);
                    world.emit(ALL, take(NAME), 0);
                    break;
                case SUM:
                    take(SUM);
                    int of = take(NAME);
                    world.emit(SUM, of, take(NAME));
                    break;
                default:
                    // None of these: a FAULT, as a NAME could stand here.
                    take(NAME);
            }
        }
    }

    /** Finds FAULTS 3 to 6 in a WORLD that is well written, and puts numbers in the place of its NAMES. */
    private static final class Checker {
        private final Tape tape;
        private World world;
        private int fault;
        private int faultPlace;

        Checker(Tape tape, World draft) {
            this.tape = tape;
            world = draft;
        }

        int check(World draft) {
            world = draft;
            fault = 0;
            faultPlace = NONE;
            checkSettings();
            checkKinds();
            for (int kind = 0; kind < world.kindCount; kind++) {
                checkVars(kind);
                for (int i = world.codeFrom[kind]; i >= 0 && i < world.codeTo[kind] && i < world.codeSize; i++) {
                    resolve(kind, i);
                }
            }
            return fault;
        }

        int faultPlace() {
            return faultPlace;
        }

        /** Of all FAULTS the first by its place stays, of one place the least. */
        private void find(int number, int token) {
            int there = tape.placeOf(token);
            if (fault == 0 || there < faultPlace || there == faultPlace && number < fault) {
                fault = number;
                faultPlace = there;
            }
        }

        private void checkSettings() {
            for (int i = 0; i < world.settingCount; i++) {
                if (settingNamed(tape.valueOf(world.settingTokens[i])) != i) {
                    find(TWICE, world.settingTokens[i]);
                }
            }
        }

        private void checkKinds() {
            for (int i = 0; i < world.kindCount; i++) {
                long name = tape.valueOf(world.kindTokens[i]);
                if (settingNamed(name) >= 0 || kindNamed(name) != i) {
                    find(TWICE, world.kindTokens[i]);
                }
            }
        }

        private void checkVars(int kind) {
            for (int i = 0; i < world.varCount[kind]; i++) {
                int token = world.varTokens[kind * MOST_VARS + i];
                if (varNamed(kind, tape.valueOf(token)) != i) {
                    find(TWICE, token);
                }
            }
        }

        private int settingNamed(long name) {
            for (int i = 0; i < world.settingCount; i++) {
                if (tape.valueOf(world.settingTokens[i]) == name) {
                    return i;
                }
            }
            return NONE;
        }

        private int kindNamed(long name) {
            for (int i = 0; i < world.kindCount; i++) {
                if (tape.valueOf(world.kindTokens[i]) == name) {
                    return i;
                }
            }
            return NONE;
        }

        private int varNamed(int kind, long name) {
            if (!world.hasKind(kind)) {
                return NONE;
            }
            for (int i = 0; i < world.varCount[kind]; i++) {
                if (tape.valueOf(world.varTokens[kind * MOST_VARS + i]) == name) {
                    return i;
                }
            }
            return NONE;
        }

        private void resolve(int kind, int i) {
            int token = world.left[i];
            switch (world.operation[i]) {
                case NAME:
                    resolveName(kind, i);
                    break;
                case LOT:
                    world.left[i] = (int) tape.valueOf(token);
                    if (world.left[i] < 1) {
                        find(WRONG, token);
                    }
                    break;
                case SUM:
                    resolveSum(kind, i);
                    break;
                case ALL:
                    world.left[i] = needKind(token);
                    break;
                case ADD:
                    world.left[i] = needVar(kind, token);
                    break;
                case NEAR: case PICK:
                    resolveGive(kind, i);
                    break;
                default:
                    break;
            }
        }

        private void resolveName(int kind, int i) {
            long name = tape.valueOf(world.left[i]);
            int var = varNamed(kind, name);
            int setting = settingNamed(name);
            if (var < 0 && setting < 0) {
                find(NO_NAME, world.left[i]);
            }
            world.operation[i] = var >= 0 ? VAR : SETTING;
            world.left[i] = var >= 0 ? var : setting;
        }

        private void resolveSum(int kind, int i) {
            int of = needKind(world.left[i]);
            if (of < 0) {
                return;
            }
            int var = needVar(of, world.right[i]);
            if (var >= 0 && of != kind && world.varSecret[of * MOST_VARS + var]) {
                find(KNOWS, world.right[i]);
            }
            world.left[i] = of;
            world.right[i] = var;
        }

        /** The right side becomes one number for the KIND to which is given and for the VAR there. */
        private void resolveGive(int kind, int i) {
            long name = tape.valueOf(world.left[i]);
            int to = needKind(world.right[i]);
            int there = varNamed(to, name);
            if (to >= 0 && there < 0) {
                find(NO_NAME, world.right[i]);
            }
            world.left[i] = needVar(kind, world.left[i]);
            world.right[i] = to * MOST_VARS + there;
        }

        private int needKind(int token) {
            int kind = kindNamed(tape.valueOf(token));
            if (kind < 0) {
                find(NO_NAME, token);
            }
            return kind;
        }

        private int needVar(int kind, int token) {
            int var = varNamed(kind, tape.valueOf(token));
            if (var < 0) {
                find(NO_NAME, token);
            }
            return var;
        }
    }

    /** THE WORLD as it is set now, and its ONES as they begin. */
    private static final class Town {
        World world;
        final int[] settings = new int[MOST_SETTINGS];
        int size;
        final int[] kinds = new int[MOST_ONES];
        final int[] places = new int[MOST_ONES];
        final int[] copies = new int[MOST_ONES];
        final int[] begins = new int[MOST_ONES * MOST_VARS];
        boolean dealt;
        // Grows with each change of what RUNS hang on.
        int changes;

        Town(World world) {
            this.world = world;
        }

        void moveTo(World next) {
            world = next;
            size = 0;
            for (int i = 0; i < world.settingCount; i++) {
                settings[i] = world.settingBegins[i];
            }
            changes++;
        }

        boolean hasOne(int i) {
            return i >= 0 && i < size;
        }

        boolean oneHasVar(int i, int var) {
            return hasOne(i) && world.hasVar(kinds[i], var);
        }

        boolean putSetting(int i, int v) {
            if (!world.hasSetting(i) || !isNumber(v)) {
                return false;
            }
            settings[i] = v;
            changes++;
            return true;
        }

        int addOne(int kind, int place, int copy) {
            if (size >= MOST_ONES || !world.hasKind(kind) || place < 0 || place >= PLACES
                    || copy < 1 || copy > MOST_COPIES) {
                return NONE;
            }
            kinds[size] = kind;
            places[size] = place;
            copies[size] = copy;
            for (int var = 0; var < MOST_VARS; var++) {
                begins[size * MOST_VARS + var] = world.varBegins[kind * MOST_VARS + var];
            }
            size++;
            changes++;
            return size - 1;
        }

        boolean putBegin(int i, int var, int v) {
            if (!oneHasVar(i, var) || !isNumber(v)) {
                return false;
            }
            begins[i * MOST_VARS + var] = v;
            changes++;
            return true;
        }

        void dealOrder(boolean isDealt) {
            dealt = isDealt;
            changes++;
        }
    }

    /** What each ONE wishes in a TICK, in its order. */
    private static final class Wishes {
        private static final int MOST_EACH = MOST_RULES * MOST_WISHES;

        final int[] size = new int[MOST_ONES];
        final int[] what = new int[MOST_ONES * MOST_EACH];
        final int[] var = new int[MOST_ONES * MOST_EACH];
        final int[] amount = new int[MOST_ONES * MOST_EACH];
        final int[] other = new int[MOST_ONES * MOST_EACH];
        final int[] otherVar = new int[MOST_ONES * MOST_EACH];

        void add(int who, int wish, int ofVar, int howMuch, int toWhom, int toVar) {
            if (size[who] >= MOST_EACH) {
                return;
            }
            int i = who * MOST_EACH + size[who];
            what[i] = wish;
            var[i] = ofVar;
            amount[i] = howMuch;
            other[i] = toWhom;
            otherVar[i] = toVar;
            size[who]++;
        }
    }

    /** Works out the code of a ONE's KIND by what all were ahead of a TICK. */
    private static final class Chooser {
        // Two values a level wait within six brackets, one more left of a LIT's sign, and the last one.
        private static final int MOST_VALUES = 2 * (MOST_OPEN + 1) + 2;

        private final Town town;
        private final Wishes wishes;
        private final int[] here = new int[PLACES];
        private final int[] all = new int[MOST_KINDS];
        private final int[] sums = new int[MOST_KINDS * MOST_VARS * PLACES];
        private final int[] values = new int[MOST_VALUES];
        private int valueCount;
        private boolean dividedByZero;
        private int lots;
        private int who;
        private final int[] neighbours = new int[MOST_ONES];

        Chooser(Town town, Wishes wishes) {
            this.town = town;
            this.wishes = wishes;
        }

        /** Counts once a TICK what 'here', 'all' and 'sum' tell; a WORLD without these needs no count. */
        void look(Run run) {
            int kindCount = Math.min(town.world.kindCount, MOST_KINDS);
            for (int i = 0; i < PLACES; i++) {
                here[i] = 0;
            }
            for (int i = 0; i < kindCount; i++) {
                all[i] = 0;
            }
            for (int i = 0; i < kindCount * MOST_VARS * PLACES; i++) {
                sums[i] = 0;
            }
            for (int i = 0; i < town.size; i++) {
                if (!run.gone[i]) {
                    lookAt(run, i);
                }
            }
        }

        private void lookAt(Run run, int i) {
            int kind = town.kinds[i];
            int copies = town.copies[i];
            int spot = run.spot[i];
            here[spot] += copies;
            all[kind] += copies;
            for (int var = 0; var < town.world.varCount[kind]; var++) {
                sums[(kind * MOST_VARS + var) * PLACES + spot] += run.vars[i * MOST_VARS + var] * copies;
            }
        }

        void choose(Run run, int i) {
            World world = town.world;
            who = i;
            lots = 0;
            valueCount = 0;
            dividedByZero = false;
            wishes.size[i] = 0;
            int kind = town.kinds[i];
            int end = Math.min(world.codeTo[kind], world.codeSize);
            int next;
            for (int pc = Math.max(world.codeFrom[kind], 0); pc < end; pc = next) {
                next = pc + 1;
                int a = world.left[pc];
                int b = world.right[pc];
                switch (world.operation[pc]) {
                    case SAME: case UNLIKE: case LESS: case UP_TO:
                        // On the left is 1 if the LIT is turned round by its nots.
                        if (holds(world.operation[pc]) == (a == 1)) {
                            next = Math.max(next, b);
                        }
                        break;
                    case OR:
                        next = Math.max(next, b);
                        break;
                    case PLUS: case MINUS: case TIMES: case OVER:
                        join(world.operation[pc]);
                        break;
                    case ADD: case GO: case NEAR: case PICK: case QUIT:
                        wish(run, world.operation[pc], a, b);
                        break;
                    default:
                        push(unit(run, world.operation[pc], a, b));
                }
            }
        }

        private void push(int value) {
            if (valueCount >= 0 && valueCount < values.length) {
                values[valueCount] = value;
                valueCount++;
            }
        }

        private int pop() {
            if (valueCount < 1 || valueCount > values.length) {
                return 0;
            }
            valueCount--;
            return values[valueCount];
        }

        private boolean holds(int test) {
            int b = pop();
            int a = pop();
            boolean told = !dividedByZero;
            dividedByZero = false;
            switch (test) {
                case SAME: return told && a == b;
                case UNLIKE: return told && a != b;
                case LESS: return told && a < b;
                default: return told && a <= b;
            }
        }

        private void join(int sign) {
            int b = pop();
            int a = pop();
            switch (sign) {
                case PLUS:
                    push(a + b);
                    break;
                case MINUS:
                    push(a - b);
                    break;
                case TIMES:
                    push(a * b);
                    break;
                default:
                    dividedByZero = dividedByZero || b == 0;
                    push(b == 0 ? 0 : a / b);
            }
        }

        private int unit(Run run, int what, int a, int b) {
            int spot = run.spot[who];
            switch (what) {
                case INT: return a;
                case VAR: return cell(run.vars, who * MOST_VARS + a);
                case SETTING: return cell(run.settings, a);
                case TICK: return run.tick;
                case HERE: return cell(here, spot);
                case PLACE: return spot;
                case LOT:
                    lots++;
                    return dealLot(run.seed, who, run.tick, lots - 1, a);
                case SUM: return cell(sums, (a * MOST_VARS + b) * PLACES + spot);
                case ALL: return cell(all, a);
                default: return 0;
            }
        }

        private void wish(Run run, int what, int a, int b) {
            if (what == QUIT) {
                wishes.add(who, QUIT, 0, 0, NONE, 0);
                return;
            }
            // A division by 0 anywhere in an E makes it 0 as a whole, though all of it has been worked out.
            int value = pop();
            int amount = dividedByZero ? 0 : value;
            dividedByZero = false;
            if (what == ADD || what == GO) {
                wishes.add(who, what, a, amount, NONE, 0);
                return;
            }
            int m = gather(run, b / MOST_VARS);
            int chosen = 0;
            if (what == PICK && m > 0) {
                lots++;
                chosen = dealLot(run.seed, who, run.tick, lots - 1, m);
            }
            wishes.add(who, GIVE, a, amount, chosen < m ? neighbours[chosen] : NONE, b % MOST_VARS);
        }

        /** Keeps the other ONES of a KIND at this PLACE, by numbers; answers how many they are. */
        private int gather(Run run, int kind) {
            int m = 0;
            for (int i = 0; i < town.size; i++) {
                if (i != who && !run.gone[i] && town.kinds[i] == kind && run.spot[i] == run.spot[who]) {
                    neighbours[m] = i;
                    m++;
                }
            }
            return m;
        }
    }

    /** A RUN: its SETTINGS, and what all ONES are behind its TICKS so far. */
    private static final class Run {
        private final Town town;
        private final Chooser chooser;
        private final Wishes wishes;
        final int[] settings = new int[MOST_SETTINGS];
        final int[] vars = new int[MOST_ONES * MOST_VARS];
        final int[] spot = new int[MOST_ONES];
        final boolean[] gone = new boolean[MOST_ONES];
        private final int[] turns = new int[MOST_ONES];
        private final int[] turnLots = new int[MOST_ONES];
        int seed;
        int tick;

        Run(Town town, Chooser chooser, Wishes wishes) {
            this.town = town;
            this.chooser = chooser;
            this.wishes = wishes;
        }

        /** Goes to the beginning, with the SETTINGS as they are now. */
        void restart(int newSeed) {
            seed = newSeed;
            tick = 0;
            for (int i = 0; i < town.world.settingCount; i++) {
                settings[i] = town.settings[i];
            }
            for (int i = 0; i < town.size; i++) {
                spot[i] = town.places[i];
                gone[i] = false;
            }
            for (int i = 0; i < town.size * MOST_VARS; i++) {
                vars[i] = town.begins[i];
            }
        }

        void goPlain(int newSeed, int t) {
            restart(newSeed);
            goOn(t);
        }

        void goOn(int t) {
            for (int i = tick; i < t; i++) {
                step(NONE);
            }
        }

        /** Does one TICK, in which the WISHES of the ONE left out are chosen but not done. */
        void step(int leftOut) {
            if (town.world.counts) {
                chooser.look(this);
            }
            for (int i = 0; i < town.size; i++) {
                if (gone[i]) {
                    wishes.size[i] = 0;
                } else {
                    chooser.choose(this, i);
                }
            }
            putInOrder();
            for (int i = 0; i < town.size; i++) {
                if (turns[i] != leftOut) {
                    fulfil(turns[i]);
                }
            }
            hold();
            tick++;
        }

        private void putInOrder() {
            for (int i = 0; i < town.size; i++) {
                int lots = town.dealt ? dealLot(seed, i, tick, ORDER_LOT, ORDER_LOT) : 0;
                int j = i;
                while (j > 0 && turnLots[j - 1] > lots) {
                    turnLots[j] = turnLots[j - 1];
                    turns[j] = turns[j - 1];
                    j--;
                }
                turnLots[j] = lots;
                turns[j] = i;
            }
        }

        private void fulfil(int who) {
            int from = who * Wishes.MOST_EACH;
            for (int i = from; i < from + wishes.size[who]; i++) {
                switch (wishes.what[i]) {
                    case ADD:
                        addTo(who * MOST_VARS + wishes.var[i], wishes.amount[i]);
                        break;
                    case GO:
                        spot[who] = (spot[who] + Math.floorMod(wishes.amount[i], PLACES)) % PLACES;
                        break;
                    case GIVE:
                        hand(who * MOST_VARS + wishes.var[i], wishes.other[i], wishes.otherVar[i], wishes.amount[i]);
                        break;
                    default:
                        gone[who] = true;
                }
            }
        }

        private void addTo(int var, int amount) {
            if (var >= 0 && var < vars.length) {
                vars[var] += amount;
            }
        }

        private void hand(int from, int other, int otherVar, int wished) {
            int amount = Math.min(wished, cell(vars, from));
            if (amount >= 1 && town.hasOne(other) && !gone[other]) {
                addTo(from, -amount);
                addTo(other * MOST_VARS + otherVar, amount);
            }
        }

        private void hold() {
            for (int i = 0; i < town.size * MOST_VARS; i++) {
                vars[i] = Math.max(-MOST_NUMBER, Math.min(MOST_NUMBER, vars[i]));
            }
        }

        boolean differs(Run other, int i) {
            if (gone[i] != other.gone[i] || spot[i] != other.spot[i]) {
                return true;
            }
            for (int var = i * MOST_VARS; var < (i + 1) * MOST_VARS; var++) {
                if (vars[var] != other.vars[var]) {
                    return true;
                }
            }
            return false;
        }

        int total(int kind, int var) {
            int sum = 0;
            for (int i = 0; i < town.size; i++) {
                if (town.kinds[i] == kind) {
                    sum += vars[i * MOST_VARS + var] * town.copies[i];
                }
            }
            return sum;
        }
    }

    /** The CAUSES told, and their SHARES. */
    private static final class Causes {
        private final Town town;
        private final Run run;
        int size;
        private final int[] settings = new int[MOST_CAUSES];
        private final int[] numbers = new int[MOST_CAUSES];
        // The FIGURE with each set of CAUSES, as bits.
        private final int[] figures = new int[1 << MOST_CAUSES];

        Causes(Town town, Run run) {
            this.town = town;
            this.run = run;
        }

        int tell(int setting, int v) {
            if (size >= MOST_CAUSES || !town.world.hasSetting(setting) || !isNumber(v)) {
                return NONE;
            }
            settings[size] = setting;
            numbers[size] = v;
            size++;
            return size - 1;
        }

        long sumOverOrders(int cause, int seed, int t, int kind, int var) {
            for (int set = 0; set < 1 << size; set++) {
                run.restart(seed);
                for (int i = 0; i < size; i++) {
                    if ((set >> i & 1) != 0) {
                        run.settings[settings[i]] = numbers[i];
                    }
                }
                run.goOn(t);
                figures[set] = run.total(kind, var);
            }
            long sum = 0;
            for (int set = 0; set < 1 << size; set++) {
                if ((set >> cause & 1) == 0) {
                    int ahead = Integer.bitCount(set);
                    long orders = factorial(ahead) * factorial(size - 1 - ahead);
                    sum += orders * ((long) figures[set | 1 << cause] - figures[set]);
                }
            }
            return sum;
        }

        private static long factorial(int n) {
            long product = 1;
            for (int i = 2; i <= n; i++) {
                product *= i;
            }
            return product;
        }
    }

    /** SEEN, SPANS, THE GRID, and what would be at its points that MEET. */
    private static final class Grid {
        private final Town town;
        private final Run run;
        int seenCount;
        private final int[] seenTimes = new int[MOST_SEEN];
        private final int[] seenKinds = new int[MOST_SEEN];
        private final int[] seenVars = new int[MOST_SEEN];
        private final int[] seenLows = new int[MOST_SEEN];
        private final int[] seenHighs = new int[MOST_SEEN];
        int spanCount;
        private final int[] spanSettings = new int[MOST_SPANS];
        private final int[] spanFrom = new int[MOST_SPANS];
        private final int[] spanSteps = new int[MOST_SPANS];
        private final int[] spanSizes = new int[MOST_SPANS];
        private int points = 1;
        // How many SEEDS from 0 on a point meets, of those tried: RUNS are dear, and asked for again and again.
        private final int[] seedsMet = new int[MOST_POINTS];
        private int seedsTried;
        private int changesTried;

        Grid(Town town, Run run) {
            this.town = town;
            this.run = run;
        }

        void empty() {
            seenCount = 0;
            spanCount = 0;
            points = 1;
            forget();
        }

        private void forget() {
            seedsTried = 0;
            for (int i = 0; i < seedsMet.length; i++) {
                seedsMet[i] = 0;
            }
        }

        int tellSeen(int t, int kind, int var, int low, int high) {
            if (seenCount >= MOST_SEEN) {
                return NONE;
            }
            seenTimes[seenCount] = t;
            seenKinds[seenCount] = kind;
            seenVars[seenCount] = var;
            seenLows[seenCount] = low;
            seenHighs[seenCount] = high;
            seenCount++;
            forget();
            return seenCount - 1;
        }

        int tellSpan(int setting, int a, int b, int step) {
            if (spanCount >= MOST_SPANS || !town.world.hasSetting(setting) || hasSpan(setting) || a > b
                    || !isNumber(a) || !isNumber(b) || step < 1 || step > MOST_NUMBER) {
                return NONE;
            }
            int numbers = (b - a) / step + 1;
            if (points * numbers > MOST_POINTS) {
                return NONE;
            }
            spanSettings[spanCount] = setting;
            spanFrom[spanCount] = a;
            spanSteps[spanCount] = step;
            spanSizes[spanCount] = numbers;
            spanCount++;
            points *= numbers;
            forget();
            return points;
        }

        private boolean hasSpan(int setting) {
            for (int i = 0; i < spanCount; i++) {
                if (spanSettings[i] == setting) {
                    return true;
                }
            }
            return false;
        }

        /** Which of its SPAN's numbers a point has: the last SPAN's turns quickest. */
        private int turn(int point, int span) {
            int rest = point;
            for (int i = spanCount - 1; i > span; i--) {
                rest /= Math.max(spanSizes[i], 1);
            }
            return rest % Math.max(spanSizes[span], 1);
        }

        int number(int point, int span) {
            return spanFrom[span] + turn(point, span) * spanSteps[span];
        }

        private void restartAt(int point, int seed) {
            run.restart(seed);
            for (int i = 0; i < spanCount; i++) {
                run.settings[spanSettings[i]] = number(point, i);
            }
        }

        /** Must be called ahead of what tells of the points that meet with so many SEEDS. */
        void trySeeds(int s) {
            if (changesTried != town.changes) {
                forget();
                changesTried = town.changes;
            }
            for (int seed = seedsTried; seed < s; seed++) {
                for (int point = 0; point < points; point++) {
                    if (seedsMet[point] == seed && meetsSeen(point, seed)) {
                        seedsMet[point]++;
                    }
                }
                seedsTried = seed + 1;
            }
        }

        /** One RUN serves all SEEN, and ends with the first that is not so. */
        private boolean meetsSeen(int point, int seed) {
            int last = 0;
            for (int i = 0; i < seenCount; i++) {
                last = Math.max(last, seenTimes[i]);
            }
            restartAt(point, seed);
            for (int t = 0; t <= last; t++) {
                run.goOn(t);
                if (!meetsSeenOf(t)) {
                    return false;
                }
            }
            return true;
        }

        private boolean meetsSeenOf(int t) {
            for (int i = 0; i < seenCount; i++) {
                if (seenTimes[i] == t) {
                    int figure = run.total(seenKinds[i], seenVars[i]);
                    if (figure < seenLows[i] || figure > seenHighs[i]) {
                        return false;
                    }
                }
            }
            return true;
        }

        int countMeeting(int s) {
            int n = 0;
            for (int point = 0; point < points; point++) {
                if (seedsMet[point] >= s) {
                    n++;
                }
            }
            return n;
        }

        int meetingPoint(int s, int i) {
            int passed = 0;
            for (int point = 0; point < points; point++) {
                if (seedsMet[point] >= s) {
                    if (passed == i) {
                        return point;
                    }
                    passed++;
                }
            }
            return NONE;
        }

        int untoldSpans(int s) {
            int firsts = 0;
            int lasts = 0;
            for (int point = 0; point < points; point++) {
                if (seedsMet[point] >= s) {
                    for (int span = 0; span < spanCount; span++) {
                        int turn = turn(point, span);
                        firsts |= turn == 0 ? 1 << span : 0;
                        lasts |= turn == spanSizes[span] - 1 ? 1 << span : 0;
                    }
                }
            }
            return firsts & lasts;
        }

        /** The FIGURE at a point with one SETTING more told a number, if there is one. */
        private int figureAt(int point, int seed, int setting, int v, int t, int kindVar) {
            restartAt(point, seed);
            if (setting >= 0) {
                run.settings[setting] = v;
            }
            run.goOn(t);
            return run.total(kindVar / MOST_VARS, kindVar % MOST_VARS);
        }

        /** The most or the least of a FIGURE with a SETTING told a number; NO_FIGURE if no point meets. */
        int outermost(int s, int setting, int v, int t, int kindVar, boolean most) {
            int found = NO_FIGURE;
            for (int point = 0; point < points; point++) {
                for (int seed = 0; seed < s && seedsMet[point] >= s; seed++) {
                    int figure = figureAt(point, seed, setting, v, t, kindVar);
                    boolean further = most ? figure > found : figure < found;
                    if (found == NO_FIGURE || further) {
                        found = figure;
                    }
                }
            }
            return found;
        }

        int countMore(int s, int setting, int v, int t, int kindVar) {
            int n = 0;
            for (int point = 0; point < points; point++) {
                for (int seed = 0; seed < s && seedsMet[point] >= s; seed++) {
                    int without = figureAt(point, seed, NONE, 0, t, kindVar);
                    if (figureAt(point, seed, setting, v, t, kindVar) > without) {
                        n++;
                    }
                }
            }
            return n;
        }
    }

    /** PLANS of TRIALS. */
    private static final class Plans {
        private Plans() {
        }

        private static int rows(int k) {
            return 1 << k;
        }

        static boolean hasEffects(int k, int effects) {
            return k >= 1 && k <= MOST_FACTORS && effects >= 0 && effects < 1 << rows(k) && (effects & 1) == 0;
        }

        static boolean hasPlan(int k, int plan) {
            return k >= 1 && k <= MOST_FACTORS && plan >= 1 && plan < 1 << rows(k);
        }

        static boolean isTelling(int k, int plan, int effects) {
            // Effect 0, the empty set, is 1 at each ROW: its product with an EFFECT is that EFFECT alone.
            int withNone = effects | 1;
            for (int e = 1; e < rows(k); e++) {
                for (int f = 0; f < e; f++) {
                    boolean both = (withNone >> e & 1) != 0 && (withNone >> f & 1) != 0;
                    if (both && sumOfProducts(k, plan, e, f) != 0) {
                        return false;
                    }
                }
            }
            return true;
        }

        private static int sumOfProducts(int k, int plan, int e, int f) {
            int sum = 0;
            for (int row = 0; row < rows(k); row++) {
                if ((plan >> row & 1) != 0) {
                    sum += effectAt(e, row) * effectAt(f, row);
                }
            }
            return sum;
        }

        private static int effectAt(int effect, int row) {
            return (Integer.bitCount(effect & ~row) & 1) == 0 ? 1 : -1;
        }

        static int fewestRows(int k, int effects) {
            int best = NEVER;
            for (int plan = 1; plan < 1 << rows(k); plan++) {
                boolean fewer = best < 0 || Integer.bitCount(plan) < Integer.bitCount(best);
                if (fewer && isTelling(k, plan, effects)) {
                    best = plan;
                }
            }
            return best;
        }
    }
}
