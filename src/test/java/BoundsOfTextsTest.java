/** Terms I, sentence by sentence: TEXT, TOKENS, FAULTS, each at its bounds; promises 4 and 5. */
public final class BoundsOfTextsTest {
    private static final Due DUE = new Due();
    private static final String[] WORDS = ("set kind end has secret rule if add go give to near pick quit or and not tick here "
            + "place lot sum all").split(" ");
    private static final String[] SIGNS = "; = + - * / == != < <= ( )".split(" ");

    public static void main(String[] args) {
        textOf2000Bytes();
        blanks();
        everyByte();
        namesOfEightLetters();
        wordsAreNoNames();
        likeNames();
        intsOfFourDigits();
        numbersThatInts();
        longestTokens();
        everyTokenAtTheBeginning();
        everyTokenEverywhere();
        emptyParts();
        syntaxAtTheEnd();
        tokens501();
        sevenSets();
        sixKinds();
        sevenHas();
        nineRules();
        sevenWishes();
        sevenBrackets();
        ofOnePlaceTheLeast();
        firstByItsPlace();
        syntaxAndRoomAheadOfOthers();
        twice();
        names();
        wrong();
        knows();
        othersFirstByTheirPlace();
        aFaultChangesNothing();
        aTextIsTheWorld();
        bytesTakenBack();
        manyReads();
        countedFromNothing();
        longConditions();
        DUE.end();
    }

    private static String times(String what, int n) {
        return what.repeat(n);
    }

    /** Like times, but each # becomes another letter. */
    private static String many(String what, int n) {
        StringBuilder all = new StringBuilder();
        for (int i = 0; i < n; i++) {
            all.append(what.replace('#', (char) ('a' + i)));
        }
        return all.toString();
    }

    /** A text of so many bytes: the blanks come ahead of the mark '~'. */
    private static String padded(int bytes, String marked) {
        return marked.replace("~", times(" ", bytes - (marked.replace("@", "").length() - 1)));
    }

    /** "A TEXT has 2,000 bytes at most." */
    private static void textOf2000Bytes() {
        for (int bytes = 1998; bytes <= 2000; bytes++) {
            DUE.fault(0, padded(bytes, "set a = 1;~"));
            DUE.fault(0, padded(bytes, "~set a = 1;"));
            DUE.fault(1, padded(bytes, "set a = 1~@"));
            DUE.fault(1, padded(bytes, "set a = 1;~@x"));
            DUE.fault(1, padded(bytes, "set a = 1;~kind a@"));
            DUE.fault(1, padded(bytes, "set a = 1;~kind @1"));
            DUE.fault(1, padded(bytes, "set a = 1;~@=="));
            DUE.fault(1, padded(bytes, "set a =~@12345"));
            DUE.fault(1, padded(bytes, "set a =~1234@"));
        }
        MadeTown t = new MadeTown();
        Due.feed(t, padded(1999, "set a = 1;~"));
        DUE.is("no text has more", t.feed(0x20202020, 0x20202020, 0x20202020, 0x20202020, 0x20202020), -1);
        DUE.is("the one fed is read", t.read(), 0);
    }

    /** "with blanks (9, 10, 13, 32) between or not" */
    private static void blanks() {
        for (char blank : new char[] {9, 10, 13, 32}) {
            DUE.fault(0, ("set a = 1 ; kind k has x = - 2 ; rule if x <= 3 add x ( 4 ) ; end end ").replace(' ', blank));
            DUE.fault(0, times("" + blank, 7));
            DUE.fault(1, "set a" + blank + "@b = 1;");
            DUE.fault(1, "set a = 1" + blank + "@2;");
            DUE.fault(1, "kind k rule if 1 @=" + blank + "= 2 end end");
            DUE.fault(1, "kind k rule if 1 <" + blank + "@= 2 end end");
        }
        for (int b : new int[] {0, 8, 11, 12, 14, 31, 33, 127, 128, 133, 160, 255}) {
            DUE.fault(1, "set a@" + (char) b + "= 1;");
        }
        DUE.fault(0, "set a=1;kind k has x=-2;rule if x<=3add x(4);end end");
        DUE.fault(0, "set a=1;kind k rule if 1==2end end");
    }

    /** "A longer one, all else, is no TOKEN": each of the 256 bytes at four places. */
    private static void everyByte() {
        for (int b = 0; b < 256; b++) {
            char c = (char) b;
            boolean blank = b == 9 || b == 10 || b == 13 || b == 32;
            boolean letter = b >= 97 && b <= 122;
            boolean digit = b >= 48 && b <= 57;
            boolean joins = b == '+' || b == '-' || b == '*' || b == '/';
            at("behind a text: byte " + b, "set a = 1;" + c, blank ? -1 : 10);
            at("behind a NAME: byte " + b, "set a" + c + "= 1;", blank || letter ? -1 : 5);
            at("behind an INT: byte " + b, "set a = 1" + c + ";", blank || digit ? -1 : b == ';' ? 10 : 9);
            at("within an E: byte " + b, "kind k rule go 1" + c + "2; end end",
                    joins || digit ? -1 : blank || b == ';' ? 17 : 16);
        }
    }

    private static void at(String what, String text, int place) {
        MadeTown t = new MadeTown();
        DUE.is(what, Due.read(t, text), place < 0 ? 0 : 1);
        DUE.is(what + ": place", t.place(), place);
    }

    /** "NAMES (letters a .. z, 8 at most" */
    private static void namesOfEightLetters() {
        for (int n = 1; n <= 20; n++) {
            String name = "abcdefghijklmnopqrstuvwxyz".substring(0, n);
            int fault = n <= 8 ? 0 : 1;
            String at = n <= 8 ? "" : "@";
            DUE.fault(fault, "set " + at + name + " = 1;");
            DUE.fault(fault, "kind " + at + name + " end");
            DUE.fault(fault, "kind k has " + at + name + " = 1; end");
            DUE.fault(n <= 8 ? 4 : 1, "kind k rule go @" + name + "; end end");
            DUE.fault(n <= 8 ? 4 : 1, "kind k rule go all @" + name + "; end end");
        }
        DUE.fault(0, "set a = 1; set z = 1; set aaaaaaaa = 1; set zzzzzzzz = 1;");
        DUE.fault(1, "set @`a = 1;");
        DUE.fault(1, "set a@{ = 1;");
        DUE.fault(1, "set @A = 1;");
        DUE.fault(1, "set @Z = 1;");
        DUE.fault(1, "set a@Z = 1;");
        DUE.fault(1, "set a@_b = 1;");
        DUE.fault(1, "set a@1 = 1;");
    }

    /** "none of the words in quotes" */
    private static void wordsAreNoNames() {
        for (String word : WORDS) {
            DUE.fault(1, "set @" + word + " = 1;");
            DUE.fault(1, "kind @" + word + " end");
            DUE.fault(1, "kind k has @" + word + " = 1; end");
            DUE.fault(0, "set " + word + "x = 1;");
            DUE.fault(0, "set x" + word + " = 1;");
            DUE.fault(0, "set " + word.substring(0, word.length() - 1) + " = 1;");
            DUE.fault(0, "set " + (word.charAt(0) == 'z' ? 'y' : 'z') + word.substring(1) + " = 1;");
            DUE.fault(1, "@" + word.toUpperCase() + " a");
        }
    }

    /** NAMES are alike only if all their letters are: each is another SETTING, with its own number. */
    private static void likeNames() {
        String[][] sets = {
            {"a", "aa", "aaa", "aaaa", "aaaaaaa", "aaaaaaaa"}, {"z", "zz", "az", "za", "zaa", "aaz"},
            {"ab", "ba", "abab", "baba", "aab", "bba"}, {"p", "ap", "aa", "q", "aq", "apa"},
            {"bq", "ca", "cq", "da", "r", "b"}, {"abcdefgh", "abcdefgi", "bbcdefgh", "abcdefg", "bcdefgh", "abcddfgh"},
        };
        for (String[] six : sets) {
            StringBuilder text = new StringBuilder();
            for (int i = 0; i < 6; i++) {
                text.append("set ").append(six[i]).append(" = ").append(i + 1).append("; ");
            }
            text.append("kind kk has x = 0; rule ");
            for (int i = 0; i < 6; i++) {
                text.append("add x ").append(six[i]).append(i < 5 ? " * 10" : "").append("; ");
            }
            MadeTown t = Due.town(text + "end end");
            t.one(0, 0, 1);
            for (int i = 0; i < 6; i++) {
                int before = t.state(0, 1, 0, 0);
                t.set(i, 0);
                DUE.is("the number of " + six[i], before - t.state(0, 1, 0, 0), (i + 1) * (i < 5 ? 10 : 1));
            }
        }
    }

    /** "INTS (1 to 4 digits)" */
    private static void intsOfFourDigits() {
        for (String digits : new String[] {"0", "9", "12", "123", "1234", "9999", "0000", "0001"}) {
            DUE.fault(0, "set a = " + digits + ";");
            DUE.fault(0, "kind k has x = " + digits + "; has y = -" + digits + "; end");
            DUE.fault(0, "kind k rule go " + digits + "; end end");
        }
        for (String digits : new String[] {"12345", "00000", "00001", "10000", "123456789012345678901234567890"}) {
            DUE.fault(1, "set a = @" + digits + ";");
            DUE.fault(1, "kind k has x = @" + digits + "; end");
            DUE.fault(1, "kind k has x = - @" + digits + "; end");
            DUE.fault(1, "kind k rule go @" + digits + "; end end");
            DUE.fault(1, "kind k rule go lot @" + digits + "; end end");
        }
        DUE.fault(1, "set a = @/1;");
        DUE.fault(1, "set a = @:1;");
        DUE.fault(1, "set a = 1@:;");
        DUE.fault(1, "set a = @;");
        DUE.fault(1, "set a = 1@a;");
    }

    private static void numbersThatInts() {
        MadeTown t = Due.town("set a = 0; set b = 9; set c = 0010; set d = 100; set e = 9999; set f = 0000; "
                + "kind k has x = 9999; has y = -9999; has z = -0; has w = -0001; has v = 0; has u = 1234; end");
        int[] settings = {0, 9, 10, 100, 9999, 0};
        int[] vars = {9999, -9999, 0, -1, 0, 1234};
        t.one(0, 0, 1);
        for (int i = 0; i < 6; i++) {
            DUE.is("setting " + i, t.setting(i), settings[i]);
            DUE.is("its VARS begin as told: " + i, t.state(0, 0, 0, i), vars[i]);
        }
    }

    /** "TOKENS, the longest that can be" */
    private static void longestTokens() {
        DUE.fault(0, "kind k rule if 1<=2 end end");
        DUE.fault(0, "kind k rule if 1!=2 end end");
        DUE.fault(0, "kind k rule if 1==2 end end");
        DUE.fault(1, "set a@==1;");
        DUE.fault(1, "kind k has x@==1; end");
        DUE.fault(1, "kind k rule if 1@=2 end end");
        DUE.fault(1, "kind k rule if 1==@=2 end end");
        DUE.fault(1, "kind k rule if 1<@<2 end end");
        DUE.fault(1, "kind k rule if 1<=@=2 end end");
        DUE.fault(1, "kind k rule if 1!=@=2 end end");
        DUE.fault(1, "kind k rule if 1@!2 end end");
        DUE.fault(1, "kind k rule if 1@=<2 end end");
        DUE.fault(1, "kind k rule if 1@=!2 end end");
        DUE.fault(1, "kind k rule if 1@>=2 end end");
        DUE.fault(1, "kind k rule if 1@>2 end end");
        DUE.fault(1, "@setset a = 1;");
        DUE.fault(1, "@seta b = 1;");
        DUE.fault(1, "set a = 1;kind k@1 end");
        DUE.fault(1, "kind k rule go 1 @and 1; end end");
        DUE.fault(1, "kind k rule go 1@andy; end end");
        DUE.fault(4, "kind k rule go @ticks; end end");
        DUE.fault(1, "kind k rule go tick@0; end end");
    }

    private static void everyTokenAtTheBeginning() {
        for (String word : WORDS) {
            boolean may = word.equals("set") || word.equals("kind");
            DUE.fault(1, may ? word + "@" : "@" + word);
            DUE.fault(1, word.equals("kind") ? "kind k end kind@" : "kind k end @" + word);
        }
        for (String sign : SIGNS) {
            DUE.fault(1, "@" + sign);
            DUE.fault(1, "set a = 1; @" + sign);
        }
        DUE.fault(1, "@a");
        DUE.fault(1, "@7");
    }

    /**
     * "a TOKEN, or what is none, with which no text goes on": behind each start all TOKENS are tried. The ones told with it
     * go on, so that what is no TOKEN behind them is the FAULT; no other one does.
     */
    private static void everyTokenEverywhere() {
        String unit = " INT NAME ( tick here place lot sum all";
        String joints = " + - * /";
        String tests = " == != < <=";
        String wishes = " add go give quit";
        String rule = "kind k has x = 1; rule ";
        String[][] starts = {
            {"", "set kind"}, {"set", "NAME"}, {"set a", "="}, {"set a =", "INT"}, {"set a = 1", ";"}, {"set a = 1;", "set kind"},
            {"kind", "NAME"}, {"kind k", "has secret rule end"}, {"kind k end", "kind"}, {"set a = 1; kind k end", "kind"},
            {"kind k has", "NAME"}, {"kind k secret", "NAME"}, {"kind k has x", "="}, {"kind k secret x", "="},
            {"kind k has x =", "- INT"}, {"kind k secret x =", "- INT"}, {"kind k has x = -", "INT"}, {"kind k has x = 1", ";"},
            {"kind k has x = - 1", ";"}, {"kind k has x = 1;", "has secret rule end"}, {"kind k secret x = 1;", "has secret rule end"},
            {rule, "if end" + wishes}, {rule + "end", "rule end"}, {rule + "if", "not" + unit}, {rule + "if not", "not" + unit},
            {rule + "if not not", "not" + unit}, {rule + "if 1", tests + joints}, {rule + "if not 1", tests + joints},
            {rule + "if (", unit}, {rule + "if (1", ")" + joints}, {rule + "if (1 + 2", ")" + joints}, {rule + "if (1)", tests + joints},
            {rule + "if ((1)", ")" + joints}, {rule + "if 1 + 2", tests + joints}, {rule + "if 1 ==", unit}, {rule + "if 1 !=", unit},
            {rule + "if 1 <", unit}, {rule + "if 1 <=", unit}, {rule + "if 1 == 2", "and or end" + joints + wishes},
            {rule + "if 1 <= (2", ")" + joints}, {rule + "if 1 <= (2)", "and or end" + joints + wishes},
            {rule + "if 1 == 2 and", "not" + unit}, {rule + "if 1 == 2 or", "not" + unit}, {rule + "if 1 == 2 and 3", tests + joints},
            {rule + "if 1 == 2 or not 3 < 4", "and or end" + joints + wishes}, {rule + "if 1 == 2 quit;", "end" + wishes},
            {rule + "add", "NAME"}, {rule + "add x", unit}, {rule + "add x 1", ";" + joints}, {rule + "add x 1;", "end" + wishes},
            {rule + "go", unit}, {rule + "go 1", ";" + joints}, {rule + "go x", ";" + joints}, {rule + "go 1 +", unit}, {rule + "go 1 -", unit},
            {rule + "go 1 *", unit}, {rule + "go 1 /", unit}, {rule + "go (", unit}, {rule + "go (1", ")" + joints},
            {rule + "go (1)", ";" + joints}, {rule + "go (1) * (2", ")" + joints}, {rule + "go 1;", "end" + wishes},
            {rule + "go tick", ";" + joints}, {rule + "go here", ";" + joints}, {rule + "go place", ";" + joints}, {rule + "go lot", "INT"},
            {rule + "go lot 2", ";" + joints}, {rule + "go sum", "NAME"}, {rule + "go sum k", "NAME"}, {rule + "go sum k x", ";" + joints},
            {rule + "go all", "NAME"}, {rule + "go all k", ";" + joints}, {rule + "give", "NAME"}, {rule + "give x", unit},
            {rule + "give x 1", "to" + joints}, {rule + "give x (1", ")" + joints}, {rule + "give x 1 to", "near pick"},
            {rule + "give x 1 to near", "NAME"}, {rule + "give x 1 to pick", "NAME"}, {rule + "give x 1 to near k", ";"},
            {rule + "give x 1 to pick k;", "end" + wishes}, {rule + "quit", ";"}, {rule + "quit;", "end" + wishes},
        };
        for (String[] start : starts) {
            String allowed = " " + start[1] + " ";
            String begun = start[0].isEmpty() ? "" : start[0] + " ";
            for (String word : WORDS) {
                goesOn(begun, word, allowed.contains(" " + word + " "));
            }
            for (String sign : SIGNS) {
                goesOn(begun, sign, allowed.contains(" " + sign + " "));
            }
            goesOn(begun, "x", allowed.contains(" NAME "));
            goesOn(begun, "7", allowed.contains(" INT "));
            for (String none : new String[] {"!", ">", "X", "ninechars", "12345", "\u00e4"}) {
                goesOn(begun, none, false);
            }
        }
    }

    private static void goesOn(String begun, String token, boolean may) {
        DUE.fault(1, begun + (may ? token + " @!" : "@" + token));
    }

    /** What may be told any number of times may be told never. */
    private static void emptyParts() {
        DUE.fault(0, "");
        DUE.fault(0, " ");
        DUE.fault(0, "set a = 1;");
        DUE.fault(0, "kind k end");
        DUE.fault(0, "kind k has x = 1; end");
        DUE.fault(0, "kind k rule end end");
        DUE.fault(0, "kind k rule if 1 == 1 end end");
        DUE.fault(1, "kind k rule if @end end");
        DUE.fault(1, "kind k rule go (@); end end");
        DUE.fault(1, "kind k rule go @; end end");
    }

    /** "the text's end: its length" */
    private static void syntaxAtTheEnd() {
        String[] starts = {"set", "set a", "set a =", "set a = 1", "kind", "kind k", "kind k has", "kind k has x", "kind k has x =",
            "kind k has x = -", "kind k has x = - 1", "kind k has x = 1;", "kind k rule", "kind k rule if", "kind k rule if not",
            "kind k rule if 1", "kind k rule if 1 <", "kind k rule if 1 < 2", "kind k rule if 1 < 2 and", "kind k rule if 1 < 2 or",
            "kind k rule add", "kind k rule add x", "kind k rule go", "kind k rule go (", "kind k rule go (1", "kind k rule go (1)",
            "kind k rule go 1 +", "kind k rule go lot", "kind k rule go sum", "kind k rule go sum a", "kind k rule go all",
            "kind k rule give", "kind k rule give x", "kind k rule give x 1", "kind k rule give x 1 to", "kind k rule give x 1 to near",
            "kind k rule give x 1 to pick a", "kind k rule quit", "kind k rule quit;", "kind k rule end"};
        for (String start : starts) {
            DUE.fault(1, start + "@");
            DUE.fault(1, start + " \n\t @");
            DUE.fault(1, start + " @!");
        }
    }

    /** So many TOKENS: "kind k rule go" (4), 1 + 1 .. or ( 1 ) .., "; end end" (3). */
    private static String textOfTokens(int n, String last) {
        StringBuilder text = new StringBuilder("kind k rule go 1");
        int tokens = 5;
        if ((n - tokens - 3) % 2 != 0) {
            text.append("; quit");
            tokens += 2;
            text.append("; go (1)+1");
            tokens += 7;
        }
        while (tokens < n - 3) {
            text.append("+1");
            tokens += 2;
        }
        return text + "; end " + last;
    }

    /** "2 ROOM: a 501st TOKEN" */
    private static void tokens501() {
        for (int n = 495; n <= 503; n++) {
            String text = textOfTokens(n, "end");
            DUE.is("TOKENS of the text", Model.tokens(text).size(), n);
            MadeTown t = new MadeTown();
            DUE.is("read of " + n + " TOKENS", Due.read(t, text), n <= 500 ? 0 : 2);
            DUE.is("place of the 501st", t.place(), n <= 500 ? -1 : Model.tokens(text).get(500).at);
        }
        DUE.fault(2, textOfTokens(499, "end kind @l end"));
        DUE.fault(2, textOfTokens(498, "end kind l @end"));
        DUE.fault(0, textOfTokens(497, "end kind l end"));
        DUE.fault(2, textOfTokens(497, "end kind l end @kind m end"));
        DUE.fault(1, textOfTokens(500, "end @set a = 1;"));
        DUE.fault(1, textOfTokens(500, "end @;"));
        DUE.fault(1, textOfTokens(500, "end @12345"));
        DUE.fault(1, textOfTokens(500, "end  @>"));
        DUE.fault(1, textOfTokens(501, "  @"));
        DUE.fault(1, textOfTokens(499, "end @! kind l end"));
        DUE.fault(1, textOfTokens(500, "@go"));
        DUE.fault(2, textOfTokens(501, "@end !"));
        DUE.fault(2, textOfTokens(501, "@rule has"));
        DUE.fault(1, textOfTokens(501, "@;"));
        DUE.fault(1, textOfTokens(502, "").replace("; end ", "; @!"));
    }

    /** "a 7th set" */
    private static void sevenSets() {
        for (int n = 0; n <= 6; n++) {
            DUE.fault(0, many("set # = 1;", n));
            MadeTown t = Due.town(many("set # = 1;", n));
            DUE.is("count 0", t.count(0), n);
        }
        DUE.fault(2, many("set # = 1;", 6) + "@set");
        DUE.fault(2, many("set # = 1;", 6) + "@set g = 1; set h = 1;");
        DUE.fault(2, many("set # = 1;", 6) + "@set a = 1;");
        DUE.fault(1, many("set # = 1;", 5) + "set f = @;");
        DUE.fault(0, many("set # = 1;", 6) + "kind k end");
    }

    /** "a 6th kind" */
    private static void sixKinds() {
        for (int n = 0; n <= 5; n++) {
            DUE.fault(0, many("kind # end ", n));
            MadeTown t = Due.town(many("kind # end ", n));
            DUE.is("count 1", t.count(1), n);
        }
        DUE.fault(2, many("kind # end ", 5) + "@kind");
        DUE.fault(2, many("kind # end ", 5) + "@kind ;");
        DUE.fault(2, many("kind # end ", 5) + "@kind f end kind g end");
        DUE.fault(1, many("kind # end ", 4) + "kind f @");
    }

    /** "a 7th HAS": of each KIND six, secret or not. */
    private static void sevenHas() {
        for (int n = 0; n <= 6; n++) {
            MadeTown t = Due.town("kind k " + many("has # = 1; ", n) + "end kind l " + many("secret # = 1; ", 6 - n) + "end");
            DUE.is("count 10", t.count(10), n);
            DUE.is("count 11", t.count(11), 6 - n);
        }
        for (int secrets = 0; secrets <= 6; secrets++) {
            String six = many("has # = 1; ", 6 - secrets) + many("secret #b = 1; ", secrets);
            DUE.fault(0, "kind k " + six + "end");
            DUE.fault(2, "kind k " + six + "@has z = 1; end");
            DUE.fault(2, "kind k " + six + "@secret ; end");
            DUE.fault(0, "kind k " + six + "rule end end");
            DUE.fault(0, "kind k " + six + "end kind l " + six + "end");
            DUE.fault(2, "kind k " + six + "end kind l " + six + "@has z = 1; end");
        }
        StringBuilder five = new StringBuilder();
        for (char k = 'k'; k < 'p'; k++) {
            five.append("kind ").append(k).append(' ').append(many("has # = 1; ", 6)).append("end ");
        }
        DUE.fault(0, five.toString());
    }

    /** "a 9th RULE of a KIND" */
    private static void nineRules() {
        for (int n = 0; n <= 8; n++) {
            MadeTown t = Due.town("kind k " + times("rule end ", n) + "end kind l " + times("rule end ", 8 - n) + "end");
            DUE.is("count 20", t.count(20), n);
            DUE.is("count 21", t.count(21), 8 - n);
        }
        DUE.fault(2, "kind k " + times("rule end ", 8) + "@rule end end");
        DUE.fault(2, "kind k " + times("rule end ", 8) + "@rule ;");
        DUE.fault(0, "kind k " + times("rule quit; end ", 8) + "end kind l " + times("rule end ", 8) + "end");
        DUE.fault(2, "kind k " + times("rule end ", 8) + "end kind l " + times("rule end ", 8) + "@rule end end");
        DUE.fault(1, "kind k " + times("rule end ", 8) + "@has x = 1; end");
        DUE.fault(1, "kind k " + times("rule end ", 8) + "@;");
    }

    /** "a 7th WISH of a RULE (at its first TOKEN)" */
    private static void sevenWishes() {
        String[] wishes = {"add x 1; ", "go 1; ", "give x 1 to near k; ", "give x 1 to pick k; ", "quit ; "};
        for (String wish : wishes) {
            for (int n = 0; n <= 6; n++) {
                DUE.fault(0, "kind k has x = 1; rule " + times(wish, n) + "end rule " + times(wish, 6) + "end end");
            }
            for (String seventh : wishes) {
                DUE.fault(2, "kind k has x = 1; rule " + times(wish, 6) + "@" + seventh + "end end");
            }
            DUE.fault(2, "kind k has x = 1; rule " + times("quit; ", 6) + "@" + wish.substring(0, wish.indexOf(' ')) + "! end end");
            DUE.fault(2, "kind k has x = 1; rule if 1 == 1 " + times(wish, 6) + "@quit; end end");
            DUE.fault(2, "kind k has x = 1; rule " + times(wish, 6) + "end rule " + times(wish, 6) + "@quit; end end");
        }
        DUE.fault(1, "kind k has x = 1; rule " + times("quit; ", 6) + "@if");
        DUE.fault(1, "kind k has x = 1; rule " + times("quit; ", 6) + "@;");
    }

    /** "a 7th ( within one another" */
    private static void sevenBrackets() {
        for (int n = 0; n <= 6; n++) {
            String e = times("(", n) + "1" + times(")", n);
            DUE.fault(0, "kind k has x = 1; rule if " + e + " < " + e + " add x " + e + "+" + e + "; go " + e + "; end end");
            DUE.fault(1, "kind k rule go " + e + "@); end end");
            if (n > 0) {
                DUE.fault(1, "kind k rule go " + times("(", n) + "1" + times(")", n - 1) + "@; end end");
            }
        }
        DUE.fault(2, "kind k rule go ((((((@(1))))))); end end");
        DUE.fault(2, "kind k rule go ((((((@((1)))))))); end end");
        DUE.fault(2, "kind k rule go ((((((@(;");
        DUE.fault(2, "kind k rule if ((((((@(1");
        DUE.fault(2, "kind k rule if 1 < ((((((@(1");
        DUE.fault(2, "kind k has x = 1; rule add x ((((((@(1");
        DUE.fault(2, "kind k has x = 1; rule give x ((((((@(1");
        DUE.fault(2, "kind k rule go (1+(2*(3-(4/(5+(6*@(7;");
        // Brackets that are closed again are not within one another.
        DUE.fault(0, "kind k rule go ((((((1)+(2))+(3))+(4))+(5))+(6))+((((((7)))))); end end");
        DUE.fault(0, "kind k rule go ((((((1))))))+(1); end end");
        DUE.fault(2, "kind k rule go (((((1)+((@(1");
        DUE.fault(0, "kind k rule go " + times("(1)+", 20) + "((((((1)))))); end end");
        DUE.fault(0, "kind k rule if ((((((1)))))) == ((((((1)))))) and ((((((1)))))) != ((((((2)))))) end end");
    }

    /** "of one place the least": a TOKEN with which no text goes on is SYNTAX, though it would be one too many, too. */
    private static void ofOnePlaceTheLeast() {
        DUE.fault(1, many("set # = 1;", 6) + "kind k end @set g = 1;");
        DUE.fault(1, many("set # = 1;", 6) + "kind k @set");
        DUE.fault(1, many("kind # end ", 4) + "kind k @kind");
        DUE.fault(1, "kind k " + many("has # = 1; ", 6) + "rule end @has");
        DUE.fault(1, "kind k " + many("has # = 1; ", 5) + "has z @has");
        DUE.fault(1, "kind k " + times("rule end ", 7) + "rule @rule");
        DUE.fault(1, "kind k rule " + times("quit; ", 6) + "end @quit;");
        DUE.fault(1, "kind k rule " + times("quit; ", 5) + "quit @quit");
        DUE.fault(1, "kind k rule go ((((((1@(");
        DUE.fault(1, "kind k rule go ((((((1)))))) @(1");
        DUE.fault(1, textOfTokens(500, "end @end"));
        DUE.fault(1, textOfTokens(500, "end @abcdefghi"));
    }

    /** "the first by its place" of SYNTAX and ROOM. */
    private static void firstByItsPlace() {
        DUE.fault(2, many("set # = 1;", 6) + "@set g = ;");
        DUE.fault(1, many("set # = 1;", 5) + "set f = @; set g = 1;");
        DUE.fault(2, "kind k rule go ((((((@(1; end end");
        DUE.fault(1, "kind k rule go ((((((@; ((((((( end end");
        DUE.fault(1, "kind k @; rule " + times("quit; ", 9));
        DUE.fault(2, "kind k rule " + times("quit; ", 6) + "@quit quit");
        DUE.fault(2, many("kind # end ", 5) + "@kind f " + times("rule end ", 9));
        DUE.fault(1, "@!" + times("set a = 1;", 9));
    }

    /** "If there is none, likewise": what is behind a TWICE counts first if it is SYNTAX or ROOM. */
    private static void syntaxAndRoomAheadOfOthers() {
        String[] faulty = {"set a = 1; set a = 1; kind k has x = 1; ", "kind k has x = 1; has x = 2; ",
            "kind k has x = 1; rule go nobody; end ", "kind k has x = 1; rule go lot 0; end ",
            "kind l secret s = 1; end kind k has x = 1; rule go sum l s; end "};
        for (String start : faulty) {
            DUE.fault(1, start + "@");
            DUE.fault(1, start + "@!");
            DUE.fault(1, start + "end @;");
            DUE.fault(2, start + "rule " + times("quit; ", 6) + "@quit; end end");
            DUE.fault(2, start + "rule go ((((((@(1))))))); end end");
            String longer = start + "rule go 1" + times("+1", 250) + "; end end";
            int place = Model.tokens(longer).get(500).at;
            DUE.fault(2, longer.substring(0, place) + "@" + longer.substring(place));
        }
    }

    /** "3 TWICE: a SETTING's, a KIND's NAME told already (of either); a VAR's of its KIND." */
    private static void twice() {
        DUE.fault(3, "set a = 1; set @a = 1;");
        DUE.fault(3, "set a = 1; set b = 1; set @a = 1; set b = 1;");
        DUE.fault(3, "set a = 1; set b = 1; set @b = 1;");
        DUE.fault(3, "set a = 1; set b = 1; set c = 1; set d = 1; set e = 1; set @e = 1;");
        DUE.fault(3, "set a = 1; kind @a end");
        DUE.fault(3, "set b = 1; set a = 1; kind k end kind @a end");
        DUE.fault(3, "kind k end kind @k end");
        DUE.fault(3, "kind k end kind l end kind @k end");
        DUE.fault(3, "kind j end kind k end kind l end kind m end kind @m end");
        DUE.fault(3, "kind k has x = 1; has @x = 1; end");
        DUE.fault(3, "kind k has x = 1; secret @x = 1; end");
        DUE.fault(3, "kind k secret x = 1; has y = 1; has @y = 1; end");
        DUE.fault(3, "kind k has a = 1; has b = 1; has c = 1; has d = 1; has e = 1; has @a = 1; end");
        DUE.fault(3, "kind k has x = 1; end kind l has y = 1; has @y = 1; end");
        DUE.fault(3, "set a = 1; set @a = 1; set a = 1;");
        DUE.fault(0, "kind k has x = 1; end kind l has x = 1; end");
        DUE.fault(0, "set x = 1; set k = 2; kind l has x = 1; has k = 1; has l = 1; end");
        DUE.fault(0, "kind k has l = 1; has k = 1; end kind l end");
    }

    /** "4 NAME: none such (KINDS may be told behind; their VARS too)." */
    private static void names() {
        String two = "set s = 1; kind k has x = 1; has y = 2; rule ";
        String behind = " end end kind l has x = 3; has z = 4; end";
        String[] good = {"go x;", "go s;", "add y x + y * s;", "go all k;", "go all l;", "go sum k y;", "go sum l z;",
            "give x 1 to near k;", "give x 1 to pick l;", "give y 1 to near k;", "if x < s and y == x or s != 1 go 1;"};
        for (String rule : good) {
            DUE.fault(0, two + rule + behind);
        }
        String[] bad = {"go @k;", "go @l;", "go @z;", "go @nobody;", "go s + (1 * @z);", "add @z 1;", "add @s 1;", "add @k 1;",
            "go all @x;", "go all @s;", "go all @m;", "go sum @s x;", "go sum @x x;", "go sum k @z;", "go sum k @s;", "go sum l @y;",
            "go sum k @k;", "go sum @m x;", "give @z 1 to near l;", "give @s 1 to near k;", "give y 1 to near @l;",
            "give y 1 to pick @l;", "give x 1 to near @s;", "give x 1 to near @m;", "give x @z to near k;", "if x < @z go 1;",
            "if @z < x go 1;", "if 1 < 2 or not 1 < 2 and x == @k go 1;"};
        for (String rule : bad) {
            DUE.fault(4, two + rule + behind);
        }
        DUE.fault(4, "kind l has x = 3; end kind k rule go @x; end end");
        DUE.fault(4, "kind l has x = 3; end kind k has y = 1; rule go sum l @y; end end");
        DUE.fault(4, "kind l end kind k has y = 1; rule give y 1 to near @l; end end");
        DUE.fault(4, "kind l end kind k has y = 1; end kind m has x = 1; rule go sum k y + sum k @x; end end");
        DUE.fault(4, "set s = 1; kind k rule give @s 1 to near s; end end");
        DUE.fault(4, "kind k has x = 1; rule give @y 1 to near m; end end");
        DUE.fault(4, "kind k rule go sum @m nobody; end end");
        // Six VARS and five KINDS: the last ones are as good as the first.
        String six = many("has # = 1; ", 6);
        DUE.fault(0, many("kind # " + "end ", 4).replace("kind d end", "kind d " + six + "rule go f; add f 1; go sum e f; "
                + "give f 1 to near e; go all e; end end") + "kind e " + six + "end");
        DUE.fault(4, "kind d " + six + "rule go @g; end end");
        // THE WORLD read before and its NAMES are gone.
        MadeTown t = Due.town("set old = 1; kind oldkind has oldvar = 1; end");
        DUE.is("an old SETTING", Due.read(t, "kind k rule go old; end end"), 4);
        DUE.is("an old KIND", Due.read(t, "kind k rule go all oldkind; end end"), 4);
        DUE.is("an old VAR", Due.read(t, "kind k has x = 1; rule go oldvar; end end"), 4);
        DUE.is("an old KIND behind", Due.read(t, "kind k has x = 1; end kind l rule go sum oldkind x; end end"), 4);
    }

    /** "5 WRONG: lot's INT 0." */
    private static void wrong() {
        DUE.fault(5, "kind k rule go lot @0; end end");
        DUE.fault(5, "kind k rule go lot @00; end end");
        DUE.fault(5, "kind k rule go lot @0000; end end");
        DUE.fault(5, "kind k rule if lot @0 == 1 end end");
        DUE.fault(5, "kind k has x = 1; rule give x 2 * (1 + lot @0) to near k; end end");
        DUE.fault(5, "kind k rule go lot 1 + lot @0 + lot 0; end end");
        for (String n : new String[] {"1", "2", "01", "0001", "10", "1000", "9999"}) {
            DUE.fault(0, "kind k rule go lot " + n + "; end end");
        }
        DUE.fault(0, "set a = 0; kind k has x = 0; rule go 0; add x 0; end end");
    }

    /** "6 KNOWS: sum's second NAME is a secret of another KIND (at it)." */
    private static void knows() {
        String k = "kind k has x = 1; secret y = 1; has z = 1; secret w = 1; rule ";
        String l = " end end kind l secret x = 1; has y = 1; secret z = 1; has w = 1; secret v = 1; end";
        DUE.fault(0, k + "go sum k x + sum k y + sum k z + sum k w;" + l);
        DUE.fault(0, k + "go sum l y + sum l w; go y; add w 1;" + l);
        DUE.fault(6, k + "go sum l @x;" + l);
        DUE.fault(6, k + "go sum l @z;" + l);
        DUE.fault(6, k + "go sum l @v;" + l);
        DUE.fault(6, k + "if 1 < sum l y + sum l @x go sum l z;" + l);
        DUE.fault(0, k + "give x 1 to near l; give z 1 to pick l; give y 1 to near l;" + l);
        DUE.fault(0, k + "go all l;" + l);
        DUE.fault(6, "kind l secret s = 1; end kind k secret s = 1; rule go sum k s + sum l @s; end end");
        DUE.fault(0, "kind l has s = 1; end kind k secret s = 1; rule go sum k s + sum l s; end end");
    }

    /** Of the FAULTS 3 to 6 the first by its place, whichever its number. */
    private static void othersFirstByTheirPlace() {
        String[] rules = {"go nobody; ", "go lot 0; ", "go sum l s; "};
        int[] numbers = {4, 5, 6};
        String[] marked = {"go @nobody; ", "go lot @0; ", "go sum l @s; "};
        String l = "kind l secret s = 1; ";
        for (int i = 0; i < 3; i++) {
            for (int j = 0; j < 3; j++) {
                DUE.fault(numbers[i], l + "end kind k rule " + marked[i] + rules[j] + "end end");
                DUE.fault(numbers[i], "kind k rule " + marked[i] + "end rule " + rules[j] + "end end " + l + "end");
            }
            DUE.fault(3, l + "has @s = 1; end kind k rule " + rules[i] + "end end");
            DUE.fault(3, "set l = 1; kind @l secret s = 1; end kind k rule " + rules[i] + "end end");
            DUE.fault(numbers[i], "kind k rule " + marked[i] + "end end " + l + "has s = 1; end");
            DUE.fault(numbers[i], "kind k rule " + marked[i] + "end end " + l + "end kind k end");
        }
        DUE.fault(3, "set a = 1; set @a = 2; kind a end kind k has x = 1; has x = 1; end");
        DUE.fault(3, "kind k has x = 1; has @x = 1; end kind k end");
    }

    /** "A text with a FAULT changes nothing" - but that the tape is empty and that place tells of it. */
    private static void aFaultChangesNothing() {
        String[] texts = {"set", "kind k end;", many("set # = 1;", 7), many("kind # end ", 6), "set a = 9; set a = 8;",
            "set a = 9; set b = 8; kind k has x = 1; rule go y; end end", "set a = 9; kind k has x = 3; rule go lot 0; end end",
            "kind l secret s = 1; end kind k rule go sum l s; end end", textOfTokens(501, "end"), "\u0000",
            "kind a has x = 1; rule add x 7; end end kind b end kind c end kind d end kind d end"};
        int[] faults = {1, 1, 2, 2, 3, 4, 5, 6, 2, 1, 3};
        for (int i = 0; i < texts.length; i++) {
            MadeTown t = Whole.town();
            t.back(t.count(6));
            DUE.is("read of text " + i, Due.read(t, texts[i]), faults[i]);
            DUE.is("the tape is empty behind text " + i, t.count(6), 0);
            DUE.is("place is there", t.place() >= 0, true);
            DUE.is("text " + i + " changes nothing", Whole.toldWithoutTape(t).equals(Whole.toldWithoutTape(Whole.town())), true);
        }
    }

    /** "else it is THE WORLD, and ONES, SEEN, SPANS, CAUSES are gone." */
    private static void aTextIsTheWorld() {
        MadeTown t = Whole.full();
        t.back(t.count(6));
        DUE.is("the same text once more", Due.read(t, Whole.TEXT), 0);
        DUE.is("place", t.place(), -1);
        int[] counts = {3, 3, 0, 0, 0, 0, 0};
        for (int what = 0; what <= 6; what++) {
            DUE.is("count " + what, t.count(what), counts[what]);
        }
        DUE.is("SETTINGS are as told", t.setting(0) * 100 + t.setting(1) * 10 + t.setting(2), 357);
        DUE.is("no ONE", t.state(0, 0, 0, 0), -1000000);
        DUE.is("no ONE's PLACE", t.at(0, 0, 0), -1);
        DUE.is("a FIGURE of none", t.figure(0, 3, 0, 0), 0);
        DUE.is("no CAUSE", t.share(0, 0, 0, 0, 0), -1000000000000L);
        DUE.is("no SEEN, no SPANS", t.meets(3), 1);
        DUE.is("no SPAN", t.met(1, 0, 0), -1000000);
        DUE.is("no SPAN UNTOLD", t.untold(1), 0);
        DUE.is("ONES from 0 on", t.one(0, 4, 1), 0);
        DUE.is("VARS begin as told", t.state(0, 0, 0, 1), -4);
        DUE.is("CAUSES from 0 on", t.cause(0, 1), 0);
        DUE.is("SEEN from 0 on", t.seen(0, 0, 0, 10, 10), 0);
        DUE.is("a SPAN of that SETTING", t.span(0, 1, 3, 1), 3);
        DUE.is("all meet", t.meets(1), 3);
        // The empty text is a WORLD, too: without SETTINGS and KINDS.
        DUE.is("the empty text", t.read(), 0);
        for (int what = -1; what <= 25; what++) {
            DUE.is("empty: count " + what, t.count(what), what >= 0 && what <= 6 ? 0 : -1);
        }
        DUE.throwsNone("no SETTING 0", t, 0);
        DUE.is("no KIND 0", t.one(0, 0, 1), -1);
        DUE.is("one point", t.meets(1), 1);
        // A smaller WORLD has nothing of a larger one.
        t = Due.town(many("set # = 7;", 6) + "kind k " + many("has # = 5;", 6) + times("rule add a 1; end ", 8) + "end");
        t.one(0, 0, 1);
        DUE.is("the large one", t.state(0, 1, 0, 0), 13);
        DUE.is("a smaller text", Due.read(t, "set b = 3; kind k has x = 1; rule end end"), 0);
        t.one(0, 0, 1);
        DUE.throwsNone("no SETTING 1", t, 1);
        DUE.is("no SETTING 1 to set", t.set(1, 0), false);
        DUE.is("no VAR 1", t.state(0, 0, 0, 1), -1000000);
        DUE.is("no VAR 1 to begin", t.begin(0, 1, 0), false);
        DUE.is("no FIGURE", t.figure(0, 0, 0, 1), -1000000000);
        DUE.is("one RULE", t.count(20), 1);
        DUE.is("that does nothing", t.state(0, 9, 0, 0), 1);
    }

    /** Bytes that have been taken back are no part of the text, though they would make its last TOKEN a longer one. */
    private static void bytesTakenBack() {
        String[][] texts = {{"set a =", "="}, {"set a", "b"}, {"set a = 1", "2"}, {"set a = 1;", "x"}, {"kind k", "ind"}, {"kind k en", "d"},
            {"kind k rule if 1 <", "="}, {"set abcdefgh", "i"}, {"set a = 1234", "5"}, {"", "set"}, {"set a = 1; !", "="}};
        for (String[] n : texts) {
            MadeTown t = new MadeTown();
            Due.feed(t, n[0] + n[1]);
            t.back(n[1].length());
            MadeTown twin = new MadeTown();
            Due.feed(twin, n[0]);
            DUE.is("read of " + n[0] + " without " + n[1], t.read(), twin.read());
            DUE.is("its place", t.place(), twin.place());
        }
        MadeTown t = new MadeTown();
        Due.feed(t, "set a ==");
        DUE.is("back", t.back(1), 7);
        DUE.is("read", t.read(), 1);
        DUE.is("the text's end", t.place(), 7);
        // Bytes of a text that was read before are gone, too.
        Due.read(t, "kind k rule if 1 <=   ");
        Due.read(t, "kind k rule if 1 <");
        DUE.is("behind a longer text", t.place(), 18);
        Due.read(t, "set a ==");
        Due.feed(t, "set a =");
        DUE.is("count 6", t.count(6), 7);
        DUE.is("read", t.read(), 1);
        DUE.is("the text's end", t.place(), 7);
    }

    /** However often texts are read, with FAULTS or without, each is read as if it were the first. */
    private static void manyReads() {
        MadeTown t = new MadeTown();
        // 1 + 1 .. with 246 signs + from PLACE 1 on: at 1 + 247, by the ring of 10.
        String large = "kind k rule go 1" + times("+1", 246) + "; end end";
        DUE.is("TOKENS of the large text", Model.tokens(large).size(), 500);
        for (int i = 0; i < 6; i++) {
            DUE.is("read " + i, Due.read(t, large), 0);
            DUE.is("place " + i, t.place(), -1);
            DUE.is("one " + i, t.one(0, 1, 1), 0);
            DUE.is("PLACE behind a TICK " + i, t.at(0, 1, 0), 8);
            DUE.is("PLACE behind ten " + i, t.at(0, 10, 0), 1);
            DUE.is("a 501st TOKEN " + i, Due.read(t, large + " kind l end"), 2);
            DUE.is("its place " + i, t.place(), large.length() + 1);
            DUE.is("brackets left open " + i, Due.read(t, "kind k rule if ((1 + 2 * 3"), 1);
            DUE.is("are forgotten " + i, Due.read(t, "kind k rule go 1)"), 1);
            DUE.is("their place " + i, t.place(), 16);
            DUE.is("THE WORLD is the large one still " + i, t.at(0, 1, 0), 8);
        }
        for (int faults = 0; faults < 10; faults++) {
            t = new MadeTown();
            for (int i = 0; i < faults; i++) {
                DUE.is("many brackets left open", Due.read(t, "kind k rule if 1 < 2 + 3 * ((((((4 - 5 * "), 1);
            }
            DUE.is("then a good text", Due.read(t, "kind k rule go 1 + 2 * (3 + 4 * (5 + 6 * 7)); end end"), 0);
            t.one(0, 0, 1);
            DUE.is("is worked out as the first one", t.at(0, 1, 0), (1 + 2 * (3 + 4 * (5 + 6 * 7))) % 10);
        }
    }

    /** In each text all that has room is counted from nothing, however full the texts read before it were. */
    private static void countedFromNothing() {
        StringBuilder full = new StringBuilder(many("set # = 1; ", 6));
        for (char k = 'k'; k < 'p'; k++) {
            full.append("kind ").append(k).append(' ').append(many("has # = 1; ", 6)).append(times("rule end ", 8)).append("end ");
        }
        MadeTown t = new MadeTown();
        for (int i = 0; i < 4; i++) {
            DUE.is("full " + i, Due.read(t, full.toString()), 0);
            DUE.is("full, with a FAULT " + i, Due.read(t, full + "!"), 1);
            DUE.is("its place " + i, t.place(), full.length());
            int[] due = {6, 5, 6, 6, 6, 6, 6, -1, 8, 8, 8, 8, 8, -1};
            int[] whats = {0, 1, 10, 11, 12, 13, 14, 15, 20, 21, 22, 23, 24, 25};
            for (int j = 0; j < whats.length; j++) {
                DUE.is("count " + whats[j], t.count(whats[j]), due[j]);
            }
        }
        for (int i = 0; i < 3; i++) {
            DUE.is("small " + i, Due.read(t, "set a = 1; kind k has a = 1; rule end end"), 0);
            int[] due = {1, 1, 1, -1, 1, -1};
            int[] whats = {0, 1, 10, 11, 20, 21};
            for (int j = 0; j < whats.length; j++) {
                DUE.is("count " + whats[j] + " of the small one", t.count(whats[j]), due[j]);
            }
        }
    }

    /** As many LITS and nots as the TOKENS let there be. */
    private static void longConditions() {
        for (int nots = 475; nots <= 483; nots++) {
            // 18 TOKENS beside them: the last one of these texts has 501.
            String text = "kind k has x = 0; rule if " + times("not ", nots) + "1 == 1 add x 7; end end";
            MadeTown t = new MadeTown();
            DUE.is("read of " + nots + " nots", Due.read(t, text), nots <= 482 ? 0 : 2);
            t.one(0, 0, 1);
            DUE.is(nots + " nots", t.state(0, 1, 0, 0), nots > 482 ? -1000000 : nots % 2 == 0 ? 7 : 0);
        }
        for (String joint : new String[] {"and", "or"}) {
            for (String last : new String[] {"1 == 1", "1 == 2"}) {
                boolean and = joint.equals("and");
                String text = "kind k has x = 0; rule if " + times((and ? "1 < 2 " : "2 < 1 ") + joint + " ", 119) + last + " add x 7; end end";
                DUE.is("TOKENS", Model.tokens(text).size() <= 500, true);
                MadeTown t = Due.town(text);
                t.one(0, 0, 1);
                DUE.is("120 LITS with " + joint, t.state(0, 1, 0, 0), last.equals("1 == 1") ? 7 : 0);
            }
        }
    }
}
