import java.util.ArrayList;
import java.util.List;
import java.util.Random;

/** Makes texts for MadeTown, always the same ones for the same number: well written ones, and ones with faults put in. */
final class TextMaker {
    private static final String[] NAMES = {"x", "y", "corn", "z", "bread", "hoarding", "q", "w"};
    private static final String[] KINDS = {"a", "b", "farmer", "baker", "thief"};
    private static final String[] SETTINGS = {"tax", "s", "rate", "p", "price", "m"};
    private static final String[] ODD = {
        "set", "kind", "end", "has", "secret", "rule", "if", "add", "go", "give", "to", "near", "pick", "quit", "or",
        "and", "not", "tick", "here", "place", "lot", "sum", "all", "x", "corn", "a", "tax", "nobody", "ninechars",
        "1", "0", "99999", "1234", ";", "=", "+", "-", "*", "/", "==", "!=", "<", "<=", "(", ")", "!", ">", "A", "\u00e9",
    };

    final Random random;
    private final List<String> tokens = new ArrayList<>();
    private int settings;
    private int kinds;
    private int[] vars;
    private boolean[][] secret;
    private int[][] names;
    private int open;

    TextMaker(long number) {
        random = new Random(number);
    }

    int upTo(int n) {
        return random.nextInt(n + 1);
    }

    boolean chance(int percent) {
        return random.nextInt(100) < percent;
    }

    private void put(String... more) {
        for (String t : more) {
            tokens.add(t);
        }
    }

    /** A well written text most of the time: at times one over the room, or with a TOKEN changed. */
    String text(int faultPercent) {
        tokens.clear();
        settings = chance(5) ? 6 + (chance(10) ? 1 : 0) : upTo(4);
        kinds = chance(5) ? 5 + (chance(10) ? 1 : 0) : 1 + upTo(2);
        vars = new int[kinds];
        names = new int[kinds][];
        secret = new boolean[kinds][];
        for (int k = 0; k < kinds; k++) {
            vars[k] = chance(3) ? 6 + (chance(10) ? 1 : 0) : chance(10) ? 0 : 1 + upTo(3);
            names[k] = new int[vars[k]];
            secret[k] = new boolean[vars[k]];
            int shift = upTo(2);
            for (int v = 0; v < vars[k]; v++) {
                names[k][v] = v + shift < NAMES.length ? v + shift : v;
                secret[k][v] = chance(30);
            }
        }
        for (int i = 0; i < settings; i++) {
            put("set", setting(i), "=", "" + number(), ";");
        }
        for (int k = 0; k < kinds; k++) {
            kind(k);
        }
        if (chance(faultPercent)) {
            for (int i = upTo(1); i >= 0 && !tokens.isEmpty(); i--) {
                spoil();
            }
        }
        return joined();
    }

    private String setting(int i) {
        return i < SETTINGS.length ? SETTINGS[i] : "more";
    }

    private String kindName(int k) {
        return k < KINDS.length ? KINDS[k] : "others";
    }

    private int number() {
        return chance(70) ? upTo(12) : chance(50) ? upTo(200) : upTo(9999);
    }

    private void kind(int k) {
        put("kind", kindName(k));
        for (int v = 0; v < vars[k]; v++) {
            put(secret[k][v] ? "secret" : "has", NAMES[names[k][v]], "=");
            if (chance(20)) {
                put("-");
            }
            put("" + number(), ";");
        }
        int rules = chance(3) ? 8 + (chance(10) ? 1 : 0) : upTo(4);
        for (int i = 0; i < rules; i++) {
            put("rule");
            if (chance(60)) {
                put("if");
                condition(k);
            }
            int wishes = chance(3) ? 6 + (chance(10) ? 1 : 0) : upTo(3);
            for (int w = 0; w < wishes; w++) {
                wish(k);
            }
            put("end");
        }
        put("end");
    }

    private void condition(int k) {
        int lits = 1 + upTo(2);
        for (int i = 0; i < lits; i++) {
            if (i > 0) {
                put(chance(50) ? "and" : "or");
            }
            for (int n = chance(30) ? 1 + upTo(2) : 0; n > 0; n--) {
                put("not");
            }
            e(k, 2);
            put(new String[] {"==", "!=", "<", "<="}[upTo(3)]);
            e(k, 2);
        }
    }

    private void wish(int k) {
        int what = upTo(9);
        if (what < 3 && vars[k] > 0) {
            put("add", NAMES[names[k][upTo(vars[k] - 1)]]);
            e(k, 3);
        } else if (what < 4) {
            put("go");
            e(k, 2);
        } else if (what < 9 && vars[k] > 0 && give(k)) {
            return;
        } else {
            put(chance(30) ? new String[] {"quit"} : new String[] {"go", "1"});
        }
        put(";");
    }

    /** Only VARS that both KINDS have can be given. */
    private boolean give(int k) {
        for (int tries = 0; tries < 6; tries++) {
            int to = upTo(kinds - 1);
            int name = names[k][upTo(vars[k] - 1)];
            for (int v = 0; v < vars[to]; v++) {
                if (names[to][v] == name) {
                    put("give", NAMES[name]);
                    e(k, 2);
                    put("to", chance(50) ? "near" : "pick", kindName(to), ";");
                    return true;
                }
            }
        }
        return false;
    }

    private void e(int k, int depth) {
        int parts = depth <= 0 ? 1 : 1 + upTo(2);
        for (int i = 0; i < parts; i++) {
            if (i > 0) {
                put(new String[] {"+", "-", "*", "/"}[upTo(3)]);
            }
            if (depth > 0 && chance(15)) {
                int deep = chance(4) ? 1 + upTo(chance(10) ? 6 : 3) : 1;
                for (int j = 0; j < deep; j++) {
                    put("(");
                }
                e(k, depth - 1);
                for (int j = 0; j < deep; j++) {
                    put(")");
                }
            } else {
                unit(k);
            }
        }
    }

    private void unit(int k) {
        int what = upTo(10);
        int of = upTo(kinds - 1);
        if (what < 3 && vars[k] > 0) {
            put(NAMES[names[k][upTo(vars[k] - 1)]]);
        } else if (what == 3 && settings > 0) {
            put(setting(upTo(settings - 1)));
        } else if (what == 4) {
            put(new String[] {"tick", "here", "place"}[upTo(2)]);
        } else if (what == 5 || what == 6) {
            put("lot", "" + (1 + upTo(chance(50) ? 5 : 9998)));
        } else if (what == 7 && vars[of] > 0) {
            int var = upTo(vars[of] - 1);
            if (of == k || !secret[of][var] || chance(3)) {
                put("sum", kindName(of), NAMES[names[of][var]]);
            } else {
                put("1");
            }
        } else if (what == 8) {
            put("all", kindName(of));
        } else {
            put("" + number());
        }
    }

    private void spoil() {
        int i = upTo(tokens.size() - 1);
        int how = upTo(4);
        String odd = ODD[upTo(ODD.length - 1)];
        if (how == 0) {
            tokens.remove(i);
        } else if (how == 1) {
            tokens.add(i, odd);
        } else if (how == 2) {
            tokens.set(i, odd);
        } else if (how == 3) {
            while (tokens.size() > i) {
                tokens.remove(tokens.size() - 1);
            }
        } else {
            // A NAME in the place of a NAME: FAULTS 3 to 6 more often than 1.
            for (int tries = 0; tries < 40; tries++) {
                int j = upTo(tokens.size() - 1);
                if (tokens.get(j).matches("[a-z]+") && !Model.WORDS.contains(tokens.get(j))) {
                    String[][] pools = {NAMES, KINDS, SETTINGS};
                    String[] pool = pools[upTo(2)];
                    tokens.set(j, pool[upTo(pool.length - 1)]);
                    return;
                } else if (tokens.get(j).equals("lot") && j + 1 < tokens.size() && chance(50)) {
                    tokens.set(j + 1, "0");
                    return;
                }
            }
        }
    }

    private String joined() {
        StringBuilder text = new StringBuilder();
        char last = ' ';
        boolean tight = chance(40);
        for (String t : tokens) {
            boolean same = Character.isLetter(last) && Character.isLetter(t.charAt(0))
                    || Character.isDigit(last) && Character.isDigit(t.charAt(0));
            boolean sign = "=!<".indexOf(last) >= 0 && t.charAt(0) == '=';
            boolean needed = (same || sign) && !chance(1);
            if (needed || !tight || chance(5)) {
                for (int n = chance(5) ? 2 : 1; n > 0; n--) {
                    text.append(chance(90) ? ' ' : "\t\n\r ".charAt(upTo(3)));
                }
            }
            text.append(t);
            last = t.charAt(t.length() - 1);
        }
        while (chance(20)) {
            text.append(' ');
        }
        return text.toString();
    }
}
