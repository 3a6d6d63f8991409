import java.util.ArrayList;
import java.util.Arrays;
import java.util.HashMap;
import java.util.HashSet;
import java.util.LinkedHashMap;
import java.util.List;
import java.util.Map;
import java.util.Set;
import java.util.TreeSet;

/**
 * The document once more, written as slowly and as near to its words as it goes: texts by an Earley recogniser over the
 * document's own grammar, E's as trees, shares over orders one by one. ModelTest holds MadeTown against it.
 */
final class Model {
    static final int NONE = -1;
    static final Set<String> WORDS = new HashSet<>(Arrays.asList(("set kind end has secret rule if add go give to near "
            + "pick quit or and not tick here place lot sum all").split(" ")));
    static final Set<String> SIGNS = new HashSet<>(Arrays.asList("; = + - * / == != < <= ( )".split(" ")));

    /** Each line a rule of BNF: what is in quotes in the document stands in quotes here. */
    static final String[] GRAMMAR = {
        "text > sets kinds", "sets >", "sets > sets 'set' NAME '=' INT ';'", "kinds >",
        "kinds > kinds 'kind' NAME hass rules 'end'",
        "hass >", "hass > hass has", "has > hassec NAME '=' INT ';'", "has > hassec NAME '=' '-' INT ';'",
        "hassec > 'has'", "hassec > 'secret'", "rules >", "rules > rules rule",
        "rule > 'rule' wishes 'end'", "rule > 'rule' 'if' cond wishes 'end'", "wishes >", "wishes > wishes wish",
        "wish > 'add' NAME e ';'", "wish > 'go' e ';'", "wish > 'give' NAME e 'to' manner NAME ';'",
        "wish > 'quit' ';'", "manner > 'near'", "manner > 'pick'", "cond > all", "cond > cond 'or' all", "all > lit",
        "all > all 'and' lit", "lit > 'not' lit", "lit > e cmp e", "cmp > '=='", "cmp > '!='", "cmp > '<'",
        "cmp > '<='", "e > part", "e > e '+' part", "e > e '-' part", "part > unit", "part > part '*' unit",
        "part > part '/' unit", "unit > INT", "unit > NAME", "unit > '(' e ')'", "unit > 'tick'", "unit > 'here'",
        "unit > 'place'", "unit > 'lot' INT", "unit > 'sum' NAME NAME", "unit > 'all' NAME",
    };

    static final class Token {
        String text;
        String sort; // 'word', NAME, INT, or ? for what is no TOKEN
        int at;

        Token(String text, String sort, int at) {
            this.text = text;
            this.sort = sort;
            this.at = at;
        }
    }

    static boolean among(int c, int low, int high) {
        return c >= low && c <= high;
    }

    static List<Token> tokens(String text) {
        List<Token> all = new ArrayList<>();
        int i = 0;
        while (i < text.length()) {
            int c = text.charAt(i);
            if (c == 9 || c == 10 || c == 13 || c == 32) {
                i++;
                continue;
            }
            int j = i + 1;
            String sort = "?";
            if (among(c, 'a', 'z')) {
                while (j < text.length() && among(text.charAt(j), 'a', 'z')) j++;
                String word = text.substring(i, j);
                sort = WORDS.contains(word) ? "'" + word + "'" : j - i <= 8 ? "NAME" : "?";
            } else if (among(c, '0', '9')) {
                while (j < text.length() && among(text.charAt(j), '0', '9')) j++;
                sort = j - i <= 4 ? "INT" : "?";
            } else if (i + 2 <= text.length() && SIGNS.contains(text.substring(i, i + 2))) {
                j = i + 2;
                sort = "'" + text.substring(i, j) + "'";
            } else if (SIGNS.contains(text.substring(i, j))) {
                sort = "'" + text.substring(i, j) + "'";
            }
            all.add(new Token(text.substring(i, j), sort, i));
            i = j;
        }
        return all;
    }

    static final Map<String, List<String[]>> RULES = rules();

    static Map<String, List<String[]>> rules() {
        Map<String, List<String[]>> all = new LinkedHashMap<>();
        for (String line : GRAMMAR) {
            String[] sides = line.split(" >");
            String right = sides.length > 1 ? sides[1].trim() : "";
            all.computeIfAbsent(sides[0], k -> new ArrayList<>()).add(right.isEmpty() ? new String[0] : right.split(" "));
        }
        return all;
    }

    /** An Earley item: which rule, how far in it, since where. */
    static final class Item {
        final String left;
        final String[] right;
        final int dot;
        final int from;

        Item(String left, String[] right, int dot, int from) {
            this.left = left;
            this.right = right;
            this.dot = dot;
            this.from = from;
        }

        @Override public boolean equals(Object o) {
            Item i = (Item) o;
            return i.right == right && i.dot == dot && i.from == from && i.left.equals(left);
        }

        @Override public int hashCode() {
            return System.identityHashCode(right) * 31 + dot * 7 + from * 1009;
        }
    }

    static final class Chart {
        final List<Item> items = new ArrayList<>();
        final Set<Item> known = new HashSet<>();

        void add(Item item) {
            if (known.add(item)) items.add(item);
        }
    }

    /** How many TOKENS can stand so that a text goes on, and (if all can) whether it may end there. */
    static int viable(List<Token> tokens, boolean[] whole) {
        List<Chart> charts = new ArrayList<>();
        charts.add(new Chart());
        for (String[] right : RULES.get("text")) charts.get(0).add(new Item("text", right, 0, 0));
        for (int n = 0; ; n++) {
            Chart chart = charts.get(n);
            for (int k = 0; k < chart.items.size(); k++) {
                Item it = chart.items.get(k);
                if (it.dot == it.right.length) {
                    Chart old = charts.get(it.from);
                    for (int q = 0; q < old.items.size(); q++) {
                        Item up = old.items.get(q);
                        if (up.dot < up.right.length && up.right[up.dot].equals(it.left)) {
                            chart.add(new Item(up.left, up.right, up.dot + 1, up.from));
                        }
                    }
                } else if (RULES.containsKey(it.right[it.dot])) {
                    String sort = it.right[it.dot];
                    for (String[] right : RULES.get(sort)) chart.add(new Item(sort, right, 0, n));
                    for (int q = 0; q < chart.items.size(); q++) {
                        Item done = chart.items.get(q);
                        if (done.from == n && done.dot == done.right.length && done.left.equals(sort)) {
                            chart.add(new Item(it.left, it.right, it.dot + 1, it.from));
                        }
                    }
                }
            }
            whole[0] = false;
            for (Item it : chart.items) {
                whole[0] |= it.left.equals("text") && it.dot == it.right.length && it.from == 0;
            }
            if (n == tokens.size()) return n;
            Chart next = new Chart();
            for (Item it : chart.items) {
                if (it.dot < it.right.length && it.right[it.dot].equals(tokens.get(n).sort)) {
                    next.add(new Item(it.left, it.right, it.dot + 1, it.from));
                }
            }
            if (next.items.isEmpty()) return n;
            charts.add(next);
        }
    }

    static final class Kind {
        String name;
        List<String> vars = new ArrayList<>();
        List<Integer> begins = new ArrayList<>();
        List<Boolean> secret = new ArrayList<>();
        List<Rule> rules = new ArrayList<>();
    }

    static final class Rule {
        List<List<Lit>> cond;
        List<Wish> wishes = new ArrayList<>();
    }

    static final class Lit {
        int nots;
        Node a;
        Node b;
        String test;
    }

    static final class Wish {
        String what;
        String var;
        Node e;
        String manner;
        String kind;
    }

    static final class Node {
        String what;
        int number;
        String one;
        String two;
        Node a;
        Node b;
    }

    static final class World {
        List<String> names = new ArrayList<>();
        List<Integer> settings = new ArrayList<>();
        List<Kind> kinds = new ArrayList<>();
    }

    static final class One {
        int kind;
        int place;
        int copies;
        int[] vars;
        boolean quit;

        One copy() {
            One o = new One();
            o.kind = kind;
            o.place = place;
            o.copies = copies;
            o.vars = vars.clone();
            o.quit = quit;
            return o;
        }
    }

    World world = new World();
    int[] settings = new int[0];
    List<One> ones = new ArrayList<>();
    boolean dealt;
    StringBuilder tape = new StringBuilder();
    int faultPlace = NONE;
    List<int[]> causes = new ArrayList<>();
    List<int[]> seen = new ArrayList<>();
    List<int[]> spans = new ArrayList<>();

    // ---- the tape and its text

    int feed(int... words) {
        if (tape.length() + 20 > 2000) return NONE;
        for (int w : words) {
            for (int part : new int[] {w >> 24, w >> 16, w >> 8, w}) tape.append((char) (part & 255));
        }
        return tape.length();
    }

    int back(int n) {
        if (n < 0 || n > tape.length()) return NONE;
        tape.setLength(tape.length() - n);
        return tape.length();
    }

    int read() {
        String text = tape.toString();
        tape.setLength(0);
        List<Token> tokens = tokens(text);
        boolean[] whole = new boolean[1];
        int viable = viable(tokens, whole);
        int syntax = viable < tokens.size() ? tokens.get(viable).at : whole[0] ? Integer.MAX_VALUE : text.length();
        int room = roomFault(tokens);
        if (syntax != Integer.MAX_VALUE || room != Integer.MAX_VALUE) {
            faultPlace = Math.min(syntax, room);
            return syntax <= room ? 1 : 2;
        }
        TextTree tree = new TextTree(tokens);
        World next = tree.text();
        if (!tree.faults.isEmpty()) {
            int least = tree.faults.first();
            faultPlace = least / 10;
            return least % 10;
        }
        faultPlace = NONE;
        world = next;
        settings = new int[world.settings.size()];
        for (int i = 0; i < settings.length; i++) settings[i] = world.settings.get(i);
        ones = new ArrayList<>();
        causes.clear();
        seen.clear();
        spans.clear();
        return 0;
    }

    static int roomFault(List<Token> tokens) {
        int sets = 0;
        int kinds = 0;
        int has = 0;
        int rules = 0;
        int wishes = 0;
        int open = 0;
        for (int i = 0; i < tokens.size(); i++) {
            boolean full = i >= 500;
            switch (tokens.get(i).sort) {
                case "'set'": full |= ++sets > 6; break;
                case "'kind'": full |= ++kinds > 5; has = 0; rules = 0; break;
                case "'has'": case "'secret'": full |= ++has > 6; break;
                case "'rule'": full |= ++rules > 8; wishes = 0; break;
                case "'add'": case "'go'": case "'give'": case "'quit'": full |= ++wishes > 6; break;
                case "'('": full |= ++open > 6; break;
                case "')'": open--; break;
                default: break;
            }
            if (full) return tokens.get(i).at;
        }
        return Integer.MAX_VALUE;
    }

    /** Builds the tree of a text that is well written; its other FAULTS as place times 10 and number. */
    static final class TextTree {
        final List<Token> tokens;
        int i;
        final TreeSet<Integer> faults = new TreeSet<>();
        final World world = new World();
        final Map<String, Kind> kindsByName = new HashMap<>();

        TextTree(List<Token> tokens) {
            this.tokens = tokens;
        }

        Token take() {
            return tokens.get(i++);
        }

        boolean on(String... sorts) {
            return i < tokens.size() && Arrays.asList(sorts).contains(tokens.get(i).sort);
        }

        void fault(int number, Token t) {
            faults.add(t.at * 10 + number);
        }

        World text() {
            collectKinds();
            Set<String> told = new HashSet<>();
            while (on("'set'")) {
                i++;
                Token name = take();
                if (!told.add(name.text)) fault(3, name);
                i++;
                world.names.add(name.text);
                world.settings.add(Integer.parseInt(take().text));
                i++;
            }
            int k = 0;
            while (on("'kind'")) {
                i++;
                Token name = take();
                if (!told.add(name.text)) fault(3, name);
                kind(world.kinds.get(k++));
            }
            return world;
        }

        void collectKinds() {
            Kind kind = null;
            for (int j = 0; j < tokens.size(); j++) {
                String sort = tokens.get(j).sort;
                if (sort.equals("'kind'")) {
                    kind = new Kind();
                    kind.name = tokens.get(j + 1).text;
                    world.kinds.add(kind);
                    kindsByName.putIfAbsent(kind.name, kind);
                } else if (sort.equals("'has'") || sort.equals("'secret'")) {
                    kind.vars.add(tokens.get(j + 1).text);
                    kind.secret.add(sort.equals("'secret'"));
                    boolean minus = tokens.get(j + 3).text.equals("-");
                    int number = Integer.parseInt(tokens.get(minus ? j + 4 : j + 3).text);
                    kind.begins.add(minus ? -number : number);
                }
            }
        }

        void kind(Kind kind) {
            Set<String> told = new HashSet<>();
            while (on("'has'", "'secret'")) {
                i++;
                Token name = take();
                if (!told.add(name.text)) fault(3, name);
                while (!take().sort.equals("';'")) { }
            }
            while (on("'rule'")) {
                i++;
                kind.rules.add(rule(kind));
            }
            i++;
        }

        Rule rule(Kind kind) {
            Rule rule = new Rule();
            if (on("'if'")) {
                rule.cond = new ArrayList<>();
                do {
                    i++;
                    List<Lit> all = new ArrayList<>();
                    all.add(lit(kind));
                    while (on("'and'")) {
                        i++;
                        all.add(lit(kind));
                    }
                    rule.cond.add(all);
                } while (on("'or'"));
            }
            while (!on("'end'")) rule.wishes.add(wish(kind));
            i++;
            return rule;
        }

        Lit lit(Kind kind) {
            if (on("'not'")) {
                i++;
                Lit inner = lit(kind);
                inner.nots++;
                return inner;
            }
            Lit lit = new Lit();
            lit.a = e(kind);
            lit.test = take().text;
            lit.b = e(kind);
            return lit;
        }

        Wish wish(Kind kind) {
            Wish wish = new Wish();
            wish.what = take().text;
            if (wish.what.equals("add") || wish.what.equals("give")) {
                Token var = take();
                wish.var = var.text;
                if (!kind.vars.contains(var.text)) fault(4, var);
            }
            if (!wish.what.equals("quit")) wish.e = e(kind);
            if (wish.what.equals("give")) {
                i++;
                wish.manner = take().text;
                Token to = take();
                wish.kind = to.text;
                Kind there = kindsByName.get(to.text);
                if (there == null || !there.vars.contains(wish.var)) fault(4, to);
            }
            i++;
            return wish;
        }

        Node e(Kind kind) {
            Node left = part(kind);
            while (on("'+'", "'-'")) {
                Node n = new Node();
                n.what = take().text;
                n.a = left;
                n.b = part(kind);
                left = n;
            }
            return left;
        }

        Node part(Kind kind) {
            Node left = unit(kind);
            while (on("'*'", "'/'")) {
                Node n = new Node();
                n.what = take().text;
                n.a = left;
                n.b = unit(kind);
                left = n;
            }
            return left;
        }

        Node unit(Kind kind) {
            Token t = take();
            Node n = new Node();
            n.what = t.sort;
            if (t.sort.equals("INT")) {
                n.number = Integer.parseInt(t.text);
            } else if (t.sort.equals("NAME")) {
                n.one = t.text;
                if (!kind.vars.contains(t.text) && !world.names.contains(t.text)) fault(4, t);
            } else if (t.sort.equals("'('")) {
                n = e(kind);
                i++;
            } else if (t.sort.equals("'lot'")) {
                n.number = Integer.parseInt(tokens.get(i).text);
                if (n.number == 0) fault(5, tokens.get(i));
                i++;
            } else if (t.sort.equals("'all'") || t.sort.equals("'sum'")) {
                Token of = take();
                n.one = of.text;
                Kind there = kindsByName.get(of.text);
                if (there == null) fault(4, of);
                if (t.sort.equals("'sum'")) {
                    Token var = take();
                    n.two = var.text;
                    if (there != null && !there.vars.contains(var.text)) fault(4, var);
                    else if (there != null && there != kind && there.secret.get(there.vars.indexOf(var.text))) fault(6, var);
                }
            }
            return n;
        }
    }

    // ---- the town as it is set up

    boolean hasSetting(int i) {
        return i >= 0 && i < settings.length;
    }

    boolean hasVar(int kind, int var) {
        return kind >= 0 && kind < world.kinds.size() && var >= 0 && var < world.kinds.get(kind).vars.size();
    }

    boolean hasOne(int i) {
        return i >= 0 && i < ones.size();
    }

    static boolean isNumber(int v) {
        return among(v, -9999, 9999);
    }

    boolean set(int i, int v) {
        if (!hasSetting(i) || !isNumber(v)) return false;
        settings[i] = v;
        return true;
    }

    int one(int kind, int place, int copies) {
        if (ones.size() == 20 || !among(kind, 0, world.kinds.size() - 1) || !among(place, 0, 9) || !among(copies, 1, 99)) {
            return NONE;
        }
        One o = new One();
        o.kind = kind;
        o.place = place;
        o.copies = copies;
        List<Integer> begins = world.kinds.get(kind).begins;
        o.vars = new int[begins.size()];
        for (int i = 0; i < o.vars.length; i++) o.vars[i] = begins.get(i);
        ones.add(o);
        return ones.size() - 1;
    }

    boolean begin(int one, int var, int v) {
        if (!hasOne(one) || !hasVar(ones.get(one).kind, var) || !isNumber(v)) return false;
        ones.get(one).vars[var] = v;
        return true;
    }

    // ---- ticks

    static int lotOf(int seed, int one, int tick, int which, int n) {
        long h = seed & 0xffffffffL;
        for (long it : new long[] {one, tick, which}) {
            h = ((h ^ it) * 1103515245L + 12345L) & 0xffffffffL;
            h = h ^ (h >> 15);
        }
        return (int) ((h >> 1) % n);
    }

    int lot(int seed, int one, int tick, int which, int n) {
        boolean told = among(one, 0, 19) && among(tick, 0, 39) && among(which, 0, 1000) && among(n, 1, 9999);
        return told ? lotOf(seed, one, tick, which, n) : NONE;
    }

    /** What all were ahead of one TICK, and one who chooses by it. */
    final class Eyes {
        List<One> then;
        One me;
        int number;
        int[] numbers;
        int seed;
        int tick;
        int lots;
        boolean broken;

        Kind kind() {
            return world.kinds.get(me.kind);
        }

        int value(Node e) {
            broken = false;
            int v = part(e);
            return broken ? 0 : v;
        }

        int part(Node n) {
            if (n.a != null) {
                long a = part(n.a);
                long b = part(n.b);
                switch (n.what) {
                    case "+": return (int) (a + b);
                    case "-": return (int) (a - b);
                    case "*": return (int) (a * b);
                    default:
                        if (b == 0) {
                            broken = true;
                            return 1;
                        }
                        return (int) (a / b);
                }
            }
            switch (n.what) {
                case "INT": return n.number;
                case "NAME":
                    int var = kind().vars.indexOf(n.one);
                    return var >= 0 ? me.vars[var] : numbers[world.names.indexOf(n.one)];
                case "'tick'": return tick;
                case "'place'": return me.place;
                case "'lot'": return lotOf(seed, number, tick, lots++, n.number);
                default: return counted(n);
            }
        }

        int counted(Node n) {
            int sum = 0;
            for (One o : then) {
                if (o.quit) continue;
                boolean kind = n.one != null && world.kinds.get(o.kind).name.equals(n.one);
                if (n.what.equals("'here'") && o.place == me.place) sum += o.copies;
                if (n.what.equals("'all'") && kind) sum += o.copies;
                if (n.what.equals("'sum'") && kind && o.place == me.place) {
                    sum += o.vars[world.kinds.get(o.kind).vars.indexOf(n.two)] * o.copies;
                }
            }
            return sum;
        }

        boolean lit(Lit lit) {
            int a = value(lit.a);
            boolean bad = broken;
            int b = value(lit.b);
            bad |= broken;
            boolean holds = false;
            switch (lit.test) {
                case "==": holds = a == b; break;
                case "!=": holds = a != b; break;
                case "<": holds = a < b; break;
                default: holds = a <= b;
            }
            holds &= !bad;
            for (int i = 0; i < lit.nots; i++) holds = !holds;
            return holds;
        }

        boolean holds(Rule rule) {
            if (rule.cond == null) return true;
            for (List<Lit> all : rule.cond) {
                boolean so = true;
                for (Lit l : all) {
                    if (!lit(l)) {
                        so = false;
                        break;
                    }
                }
                if (so) return true;
            }
            return false;
        }

        List<Deed> wishes() {
            List<Deed> deeds = new ArrayList<>();
            for (Rule rule : kind().rules) {
                if (!holds(rule)) continue;
                for (Wish w : rule.wishes) {
                    Deed d = new Deed();
                    d.wish = w;
                    if (w.e != null) d.amount = value(w.e);
                    if (w.manner != null) d.other = other(w);
                    deeds.add(d);
                }
            }
            return deeds;
        }

        int other(Wish w) {
            List<Integer> near = new ArrayList<>();
            for (int i = 0; i < then.size(); i++) {
                One o = then.get(i);
                if (i != number && !o.quit && o.place == me.place && world.kinds.get(o.kind).name.equals(w.kind)) near.add(i);
            }
            if (near.isEmpty()) return NONE;
            return w.manner.equals("near") ? near.get(0) : near.get(lotOf(seed, number, tick, lots++, near.size()));
        }
    }

    static final class Deed {
        Wish wish;
        int amount;
        int other = NONE;
    }

    /** All states of a RUN: behind 0, 1, .. TICKS; how many WISHES each ONE had in the last TICK goes to the counts. */
    List<List<One>> history(int seed, int t, int[] numbers, int undoneOne, int undoneTick, int[] counts) {
        List<List<One>> all = new ArrayList<>();
        all.add(copy(ones));
        for (int tick = 0; tick < t; tick++) {
            List<One> then = all.get(tick);
            List<One> now = copy(then);
            List<List<Deed>> deeds = new ArrayList<>();
            for (int i = 0; i < then.size(); i++) {
                Eyes eyes = new Eyes();
                eyes.then = then;
                eyes.me = then.get(i);
                eyes.number = i;
                eyes.numbers = numbers;
                eyes.seed = seed;
                eyes.tick = tick;
                deeds.add(then.get(i).quit ? new ArrayList<>() : eyes.wishes());
                if (counts != null) counts[i] = deeds.get(i).size();
            }
            List<Integer> order = new ArrayList<>();
            for (int i = 0; i < then.size(); i++) order.add(i);
            int thisTick = tick;
            if (dealt) {
                order.sort((x, y) -> Integer.compare(lotOf(seed, x, thisTick, 1000, 1000), lotOf(seed, y, thisTick, 1000, 1000)));
            }
            for (int i : order) {
                if (i == undoneOne && tick == undoneTick) continue;
                for (Deed d : deeds.get(i)) fulfil(now, i, d);
            }
            for (One o : now) {
                for (int v = 0; v < o.vars.length; v++) o.vars[v] = Math.max(-9999, Math.min(9999, o.vars[v]));
            }
            all.add(now);
        }
        return all;
    }

    void fulfil(List<One> now, int i, Deed d) {
        One me = now.get(i);
        int var = world.kinds.get(me.kind).vars.indexOf(d.wish.var);
        switch (d.wish.what) {
            case "add":
                me.vars[var] += d.amount;
                break;
            case "go":
                me.place = (int) ((((long) me.place + d.amount) % 10 + 10) % 10);
                break;
            case "quit":
                me.quit = true;
                break;
            default:
                if (d.amount < 1 || me.vars[var] < 1 || d.other == NONE || now.get(d.other).quit) return;
                int moved = Math.min(d.amount, me.vars[var]);
                One to = now.get(d.other);
                me.vars[var] -= moved;
                to.vars[world.kinds.get(to.kind).vars.indexOf(d.wish.var)] += moved;
        }
    }

    static List<One> copy(List<One> ones) {
        List<One> all = new ArrayList<>();
        for (One o : ones) all.add(o.copy());
        return all;
    }

    List<One> behind(int seed, int t, int[] numbers) {
        return history(seed, t, numbers, NONE, NONE, null).get(t);
    }

    int total(List<One> state, int kind, int var) {
        int sum = 0;
        for (One o : state) {
            if (o.kind == kind) sum += o.vars[var] * o.copies;
        }
        return sum;
    }

    // ---- what is told of runs

    int state(int seed, int t, int one, int var) {
        if (!among(t, 0, 40) || !hasOne(one) || !hasVar(ones.get(one).kind, var)) return -1000000;
        return behind(seed, t, settings).get(one).vars[var];
    }

    int at(int seed, int t, int one) {
        if (!among(t, 0, 40) || !hasOne(one)) return NONE;
        One o = behind(seed, t, settings).get(one);
        return o.quit ? -2 : o.place;
    }

    int figure(int seed, int t, int kind, int var) {
        if (!among(t, 0, 40) || !hasVar(kind, var)) return -1000000000;
        return total(behind(seed, t, settings), kind, var);
    }

    int wishes(int seed, int tick, int one) {
        if (!among(tick, 0, 39) || !hasOne(one)) return NONE;
        int[] counts = new int[20];
        history(seed, tick + 1, settings, NONE, NONE, counts);
        return counts[one];
    }

    /** For each ONE the TICKS behind which it is CHANGED. */
    List<TreeSet<Integer>> changes(int seed, int t, int one, int tick) {
        List<List<One>> plain = history(seed, t, settings, NONE, NONE, null);
        List<List<One>> undone = history(seed, t, settings, one, tick, null);
        List<TreeSet<Integer>> all = new ArrayList<>();
        for (int i = 0; i < ones.size(); i++) {
            TreeSet<Integer> ticks = new TreeSet<>();
            for (int now = 0; now < t; now++) {
                One a = plain.get(now + 1).get(i);
                One b = undone.get(now + 1).get(i);
                if (a.quit != b.quit || a.place != b.place || !Arrays.equals(a.vars, b.vars)) ticks.add(now);
            }
            all.add(ticks);
        }
        return all;
    }

    int changed(int seed, int t, int one, int tick) {
        if (!among(t, 0, 40) || !hasOne(one) || !among(tick, 0, t - 1)) return NONE;
        int bits = 0;
        List<TreeSet<Integer>> all = changes(seed, t, one, tick);
        for (int i = 0; i < all.size(); i++) bits += all.get(i).isEmpty() ? 0 : 1 << i;
        return bits;
    }

    int first(int seed, int t, int one, int tick, int other) {
        if (!among(t, 0, 40) || !hasOne(one) || !among(tick, 0, t - 1) || !hasOne(other)) return NONE;
        TreeSet<Integer> ticks = changes(seed, t, one, tick).get(other);
        return ticks.isEmpty() ? -2 : ticks.first();
    }

    int cause(int setting, int v) {
        if (causes.size() == 4 || !hasSetting(setting) || !isNumber(v)) return NONE;
        causes.add(new int[] {setting, v});
        return causes.size() - 1;
    }

    int clear() {
        int n = causes.size();
        causes.clear();
        return n;
    }

    long share(int cause, int seed, int t, int kind, int var) {
        if (!among(cause, 0, causes.size() - 1) || !among(t, 0, 40) || !hasVar(kind, var)) return -1000000000000L;
        return overOrders(new ArrayList<>(), cause, seed, t, kind, var);
    }

    long overOrders(List<Integer> order, int cause, int seed, int t, int kind, int var) {
        if (order.size() == causes.size()) {
            int place = order.indexOf(cause);
            return withCauses(order.subList(0, place + 1), seed, t, kind, var)
                    - withCauses(order.subList(0, place), seed, t, kind, var);
        }
        long sum = 0;
        for (int c = 0; c < causes.size(); c++) {
            if (!order.contains(c)) {
                order.add(c);
                sum += overOrders(order, cause, seed, t, kind, var);
                order.remove(order.size() - 1);
            }
        }
        return sum;
    }

    long withCauses(List<Integer> some, int seed, int t, int kind, int var) {
        int[] numbers = settings.clone();
        for (int c : new TreeSet<>(some)) numbers[causes.get(c)[0]] = causes.get(c)[1];
        return total(behind(seed, t, numbers), kind, var);
    }

    int seen(int t, int kind, int var, int low, int high) {
        if (seen.size() == 8 || !among(t, 0, 40) || !hasVar(kind, var) || low > high) return NONE;
        seen.add(new int[] {t, kind, var, low, high});
        return seen.size() - 1;
    }

    int span(int setting, int a, int b, int step) {
        if (spans.size() == 3 || !hasSetting(setting) || a > b || !isNumber(a) || !isNumber(b) || !among(step, 1, 9999)) {
            return NONE;
        }
        for (int[] s : spans) {
            if (s[0] == setting) return NONE;
        }
        spans.add(new int[] {setting, a, b, step});
        long n = 1;
        for (int[] s : spans) n *= numbersOf(s).size();
        if (n > 200) {
            spans.remove(spans.size() - 1);
            return NONE;
        }
        return (int) n;
    }

    static List<Integer> numbersOf(int[] span) {
        List<Integer> all = new ArrayList<>();
        for (int v = span[1]; v <= span[2]; v += span[3]) all.add(v);
        return all;
    }

    /** The points that meet: of each the numbers of its SPANS, in their order. */
    List<int[]> meeting(int s) {
        List<int[]> all = new ArrayList<>();
        meeting(s, new int[0], all);
        return all;
    }

    void meeting(int s, int[] point, List<int[]> all) {
        if (point.length < spans.size()) {
            for (int v : numbersOf(spans.get(point.length))) {
                int[] longer = Arrays.copyOf(point, point.length + 1);
                longer[point.length] = v;
                meeting(s, longer, all);
            }
            return;
        }
        for (int seed = 0; seed < s; seed++) {
            for (int[] x : seen) {
                int figure = total(behind(seed, x[0], at(point)), x[1], x[2]);
                if (figure < x[3] || figure > x[4]) return;
            }
        }
        all.add(point);
    }

    int[] at(int[] point) {
        int[] numbers = settings.clone();
        for (int i = 0; i < point.length; i++) numbers[spans.get(i)[0]] = point[i];
        return numbers;
    }

    int meets(int s) {
        return among(s, 1, 3) ? meeting(s).size() : NONE;
    }

    int met(int s, int i, int span) {
        if (!among(s, 1, 3) || !among(span, 0, spans.size() - 1)) return -1000000;
        List<int[]> all = meeting(s);
        return among(i, 0, all.size() - 1) ? all.get(i)[span] : -1000000;
    }

    int untold(int s) {
        if (!among(s, 1, 3)) return NONE;
        int bits = 0;
        for (int i = 0; i < spans.size(); i++) {
            List<Integer> numbers = numbersOf(spans.get(i));
            boolean low = false;
            boolean high = false;
            for (int[] point : meeting(s)) {
                low |= point[i] == numbers.get(0);
                high |= point[i] == numbers.get(numbers.size() - 1);
            }
            if (low && high) bits += 1 << i;
        }
        return bits;
    }

    int would(int s, int setting, int v, int t, int kind, int var, int what) {
        if (!among(s, 1, 3) || !hasSetting(setting) || !isNumber(v) || !among(t, 0, 40) || !hasVar(kind, var)
                || !among(what, 0, 2)) {
            return -1000000000;
        }
        TreeSet<Integer> figures = new TreeSet<>();
        int more = 0;
        for (int[] point : meeting(s)) {
            for (int seed = 0; seed < s; seed++) {
                int[] numbers = at(point);
                int without = total(behind(seed, t, numbers), kind, var);
                numbers[setting] = v;
                int with = total(behind(seed, t, numbers), kind, var);
                figures.add(with);
                more += with > without ? 1 : 0;
            }
        }
        if (what == 2) return more;
        if (figures.isEmpty()) return -1000000000;
        return what == 0 ? figures.first() : figures.last();
    }

    // ---- plans

    static boolean isPlans(int k, int effects) {
        if (!among(k, 1, 3) || effects < 0) return false;
        for (int e = 0; e < 31; e++) {
            if ((effects & 1 << e) != 0 && !among(e, 1, (1 << k) - 1)) return false;
        }
        return true;
    }

    static int sign(int k, int effect, int row) {
        int low = 0;
        for (int i = 0; i < k; i++) low += (effect & 1 << i) != 0 && (row & 1 << i) == 0 ? 1 : 0;
        return low % 2 == 0 ? 1 : -1;
    }

    int tells(int k, int plan, int effects) {
        if (!isPlans(k, effects) || !among(plan, 1, (1 << (1 << k)) - 1)) return NONE;
        for (int e = 1; e < 8; e++) {
            if ((effects & 1 << e) == 0) continue;
            int alone = 0;
            for (int row = 0; row < 8; row++) alone += (plan & 1 << row) != 0 ? sign(k, e, row) : 0;
            if (alone != 0) return 0;
            for (int f = 1; f < 8; f++) {
                if (f == e || (effects & 1 << f) == 0) continue;
                int both = 0;
                for (int row = 0; row < 8; row++) both += (plan & 1 << row) != 0 ? sign(k, e, row) * sign(k, f, row) : 0;
                if (both != 0) return 0;
            }
        }
        return 1;
    }

    int fewest(int k, int effects) {
        if (!isPlans(k, effects)) return NONE;
        for (int rows = 1; rows <= 8; rows++) {
            for (int plan = 1; plan < 1 << (1 << k); plan++) {
                if (Integer.bitCount(plan) == rows && tells(k, plan, effects) == 1) return plan;
            }
        }
        return -2;
    }

    int count(int what) {
        int[] plain = {settings.length, world.kinds.size(), ones.size(), causes.size(), seen.size(), spans.size(), tape.length()};
        if (among(what, 0, 6)) return plain[what];
        if (among(what, 10, 9 + world.kinds.size())) return world.kinds.get(what - 10).vars.size();
        if (among(what, 20, 19 + world.kinds.size())) return world.kinds.get(what - 20).rules.size();
        return NONE;
    }
}
