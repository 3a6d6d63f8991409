/** Promises 1 to 5: a new object, the tape, and the texts with each FAULT. */
public final class TapeTest {
    private static final Due DUE = new Due();

    public static void main(String[] args) {
        newObject();
        tape();
        goodTexts();
        tokens();
        syntax();
        room();
        names();
        whatAReadDoes();
        DUE.end();
    }

    private static void newObject() {
        MadeTown t = new MadeTown();
        for (int what = 0; what <= 6; what++) {
            DUE.is("new: count " + what, t.count(what), 0);
        }
        DUE.is("new: count 7", t.count(7), -1);
        DUE.is("new: count -1", t.count(-1), -1);
        DUE.is("new: count 10", t.count(10), -1);
        DUE.is("new: count 20", t.count(20), -1);
        DUE.is("new: place", t.place(), -1);
        DUE.throwsNone("new: setting 0", t, 0);
        DUE.is("new: set", t.set(0, 0), false);
        DUE.is("new: one", t.one(0, 0, 1), -1);
        DUE.is("new: begin", t.begin(0, 0, 0), false);
        DUE.is("new: state", t.state(0, 0, 0, 0), -1000000);
        DUE.is("new: meets", t.meets(1), 1);
        DUE.is("new: read of the empty tape", t.read(), 0);
    }

    private static void tape() {
        MadeTown t = new MadeTown();
        DUE.is("back of nothing", t.back(0), 0);
        DUE.is("back of 1 from none", t.back(1), -1);
        for (int i = 1; i <= 100; i++) {
            DUE.is("feed " + i, t.feed(0x20202020, 0x20202020, 0x20202020, 0x20202020, 0x20202020), 20 * i);
        }
        DUE.is("feed beyond 2000", t.feed(0, 0, 0, 0, 0), -1);
        DUE.is("count 6", t.count(6), 2000);
        DUE.is("back -1", t.back(-1), -1);
        DUE.is("back 2001", t.back(2001), -1);
        DUE.is("count 6 still", t.count(6), 2000);
        DUE.is("back 19", t.back(19), 1981);
        DUE.is("feed beyond 2000 by 1", t.feed(0, 0, 0, 0, 0), -1);
        DUE.is("back 1", t.back(1), 1980);
        DUE.is("feed up to 2000", t.feed(0, 0, 0, 0, 0), 2000);
        DUE.is("read: the zeros are no TOKENS", t.read(), 1);
        DUE.is("place of the first zero", t.place(), 1980);
        DUE.is("the tape is empty then", t.count(6), 0);
        DUE.is("back 0 of the empty tape", t.back(0), 0);
        DUE.is("back max", t.back(Integer.MAX_VALUE), -1);
        DUE.is("back min", t.back(Integer.MIN_VALUE), -1);
        // The highest byte of a comes first: 's' 'e' 't' ' ' ..
        t.feed(0x73657420, 0x61203d20, 0x373b2020, 0x20202020, 0x2020e920);
        DUE.is("read with a byte of 233", t.read(), 1);
        DUE.is("its place", t.place(), 18);
        t.feed(0x73657420, 0x61203d20, 0x373b2020, 0x20202020, 0x2020e920);
        t.back(2);
        DUE.is("read without", t.read(), 0);
        DUE.is("set a", t.setting(0), 7);
    }

    private static void goodTexts() {
        DUE.fault(0, "");
        DUE.fault(0, " \t\n\r");
        DUE.fault(0, "set a = 0; set b = 9999;");
        DUE.fault(0, "kind a end");
        DUE.fault(0, "kind a rule end rule if 1==1 end end");
        DUE.fault(0, "set x=1;kind a has x=-5;secret y=-0;rule if not not x<1 and 2<=y or 3!=4 add x((1));quit;end end");
        DUE.fault(0, "kind a has x=0;rule give x tick to pick b;end end kind b has x=0;rule go sum a x*all a/here-place;end end");
        DUE.fault(0, "kind a has x=0; rule add x lot 9999; end end");
        DUE.fault(0, "set abcdefgh=0001;");
        // 12a is an INT and a NAME, if1 a word and an INT.
        DUE.fault(0, "kind a has x=1;rule if1<2add x 1;end end");
        DUE.fault(0, "kind a rule if(1+2)*3==tick-here go((((((1))))));end end");
    }

    private static void tokens() {
        DUE.fault(1, "set @abcdefghi = 1;");
        DUE.fault(1, "set a = @12345;");
        DUE.fault(1, "set a @== 5;");
        DUE.fault(1, "set a = 5@! ;");
        DUE.fault(1, "@Set a = 5;");
        DUE.fault(1, "set a = 5; @>");
        DUE.fault(1, "set a = 5;@\u000b");
        DUE.fault(1, "set a = 5;@\u000c");
        DUE.fault(1, "set @set = 5;");
        DUE.fault(1, "set @here = 5;");
        DUE.fault(1, "set aset@;");
        DUE.fault(1, "kind a rule if 1 < @= 2 end end");
        DUE.fault(1, "kind a rule if 1 @! = 2 end end");
        DUE.fault(1, "kind a rule if 1 @= = 2 end end");
        DUE.fault(1, "kind a rule if 1 ==@= 2 end end");
        DUE.fault(0, "kind a rule if 1!=2 end end");
        DUE.fault(0, "kind a rule if 1<=2 end end");
        DUE.fault(1, "kind a rule if 1<=@<2 end end");
    }

    private static void syntax() {
        String[] texts = {
            "set@", "set a@", "set a = @;", "set a = @-1;", "set a = 1 @kind a end", "set a = 1   @",
            "kind a end @set a = 1;", "@end", "kind @1", "kind a has @= 1;", "kind a has x @;", "kind a has x = @x;",
            "kind a has x = - @- 1;", "kind a has x = -1 @end", "kind a rule end @has x = 1; end", "kind a rule @rule",
            "kind a rule if @end", "kind a rule if 1 @end", "kind a rule if 1 == @end", "kind a rule if not @and",
            "kind a rule if 1 == 2 @== 3 end", "kind a rule if 1 == 2 and @or", "kind a rule if (1 @== 2) end",
            "kind a rule if 1 == 2 or 3 @end end", "kind a rule if 1 == 2 @if", "kind a rule go 1 @end", "kind a rule go @;",
            "kind a rule go (1@; end", "kind a rule go 1@);", "kind a rule go (1)@);", "kind a rule go 1 @2;",
            "kind a rule go @-1;", "kind a rule go 1 + @;", "kind a rule go lot @x;", "kind a rule go sum a @1;",
            "kind a rule go all @1;", "kind a rule go sum @all;", "kind a rule add @1 x;", "kind a rule add x @;",
            "kind a rule give x 1 @near a;", "kind a rule give x 1 to @a;", "kind a rule give x 1 to near @pick;",
            "kind a rule give x 1 to pick a @end", "kind a rule quit @end", "kind a rule end@", "kind a rule end end @end",
            "kind a @;", "kind a rule if tick @and 1 == 1 end", "kind a rule if 1 == 1 and not not @go",
            "kind a rule if 1 == 1 add x 1; @and 2 == 2 end end", "kind a rule go (1 + (2) @3); end end",
            "@x", "@;", "@1", "kind a rule go 1; end end kind@", "kind a secret @has", "@secret x = 1;",
        };
        for (String text : texts) {
            DUE.fault(1, text);
        }
    }

    private static String many(String what, int n) {
        StringBuilder all = new StringBuilder();
        for (int i = 0; i < n; i++) {
            all.append(what.replace('#', (char) ('a' + i)));
        }
        return all.toString();
    }

    private static void room() {
        DUE.fault(0, many("set # = 1;", 6));
        DUE.fault(2, many("set # = 1;", 6) + "@set g = 1;");
        DUE.fault(2, many("set # = 1;", 6) + "@set x ! 1;");
        DUE.fault(1, many("set # = 1;", 6) + "@has x = 1;");
        DUE.fault(0, many("kind # end ", 5));
        DUE.fault(2, many("kind # end ", 5) + "@kind f end");
        DUE.fault(0, "kind a " + many("has # = 1;", 6) + "end kind b " + many("secret # = 1;", 6) + "end");
        DUE.fault(2, "kind a " + many("has # = 1;", 6) + "@has g = 1; end");
        DUE.fault(2, "kind a " + many("has # = 1;", 6) + "@secret g = 1; end");
        DUE.fault(0, "kind a " + many("rule end ", 8) + "end kind b " + many("rule end ", 8) + "end");
        DUE.fault(2, "kind a " + many("rule end ", 8) + "@rule end end");
        DUE.fault(0, "kind a rule " + many("go 1;", 6) + "end rule " + many("quit;", 6) + "end end");
        DUE.fault(2, "kind a rule " + many("go 1;", 6) + "@quit; end end");
        DUE.fault(2, "kind a has x=0;rule " + many("quit;", 6) + "@add x 1; end end");
        DUE.fault(2, "kind a has x=0;rule " + many("quit;", 6) + "@give x 1 to near a; end end");
        DUE.fault(0, "kind a rule go ((((((1)))))) + ((((((1)))))); end end");
        DUE.fault(2, "kind a rule go ((((((@(1))))))); end end");
        DUE.fault(2, "kind a rule go (((((1 + (2 * @(3; end end");
        DUE.fault(2, "kind a rule if 1 == ((((((@(1))))))) end end");
        tokenRoom();
    }

    /** 500 TOKENS: 'kind a has x = 0 ;' (7), then rules of 'rule add x' (3), 1 + 1 .. and '; end' (2), at last 'end'. */
    private static String ofTokens(int tokens, String last) {
        StringBuilder text = new StringBuilder("kind a has x = 0; rule add x 1");
        int n = 11;
        while (n + 5 <= tokens) {
            text.append("+1");
            n += 2;
        }
        while (n + 3 < tokens) {
            text.insert(text.indexOf("0;"), "-");
            n++;
        }
        return text + "; end " + last;
    }

    private static void tokenRoom() {
        String whole = ofTokens(500, "end");
        DUE.is("tokens of the text", Model.tokens(whole).size(), 500);
        DUE.fault(0, whole);
        DUE.fault(0, whole + "   ");
        DUE.fault(2, whole + " @kind b end");
        DUE.fault(1, whole + " @end");
        DUE.fault(1, whole + " @!");
        DUE.fault(1, whole + " @abcdefghi");
        DUE.fault(1, ofTokens(500, "") + "@");
        DUE.fault(2, ofTokens(501, "@end"));
        DUE.fault(2, ofTokens(501, "@rule x"));
        DUE.fault(1, ofTokens(501, "@has"));
        // A FAULT 3 to 6 counts only without SYNTAX and ROOM, wherever they are.
        DUE.fault(2, "set a = 1; set a = 2; " + ofTokens(491, "@end").replace("rule add x", "rule add y"));
    }

    private static void names() {
        DUE.fault(3, "set a = 1; set @a = 2;");
        DUE.fault(3, "set a = 1; kind @a end");
        DUE.fault(3, "kind a end kind @a end");
        DUE.fault(3, "kind a has x = 1; has @x = 1; end");
        DUE.fault(3, "kind a has x = 1; secret @x = 1; end");
        DUE.fault(0, "set x = 1; kind a has x = 1; end kind b has x = 1; end");
        DUE.fault(0, "kind a has a = 1; rule add a a; end end");
        DUE.fault(4, "kind a rule add @x 1; end end");
        DUE.fault(4, "set x = 1; kind a rule add @x 1; end end");
        DUE.fault(4, "kind a rule go @x; end end");
        DUE.fault(4, "kind a rule go @a; end end");
        DUE.fault(4, "kind a rule if @x == 1 end end");
        DUE.fault(4, "kind a rule go all @b; end end");
        DUE.fault(0, "kind a rule go all b; end end kind b end");
        DUE.fault(4, "set b = 1; kind a rule go all @b; end end");
        DUE.fault(4, "kind a rule go sum @b x; end end");
        DUE.fault(4, "kind a rule go sum b @x; end end kind b end");
        DUE.fault(0, "kind a rule go sum b x; end end kind b has x = 1; end");
        DUE.fault(4, "kind a has x = 1; rule go x; end end kind b rule go @x; end end");
        DUE.fault(4, "kind a rule give @x 1 to near a; end end");
        DUE.fault(4, "kind a has x = 1; rule give x 1 to near @b; end end");
        DUE.fault(4, "kind a has x = 1; rule give x 1 to near @b; end end kind b has y = 1; end");
        DUE.fault(4, "kind a end kind b has x = 1; rule give x 1 to pick @a; end end");
        DUE.fault(0, "kind a has x = 1; rule give x 1 to near b; end end kind b secret y = 1; secret x = 1; end");
        DUE.fault(5, "kind a rule go lot @0; end end");
        DUE.fault(5, "kind a rule go lot @0000; end end");
        DUE.fault(0, "kind a rule go lot 1; end end");
        DUE.fault(6, "kind a secret s = 1; end kind b rule go sum a @s; end end");
        DUE.fault(6, "kind b rule go sum a @s; end end kind a secret s = 1; end");
        DUE.fault(0, "kind a secret s = 1; rule go sum a s; end end");
        // The first by its place counts, whichever its number.
        DUE.fault(6, "kind a secret s = 1; end kind b rule go sum a @s; go lot 0; add x 1; end end kind a end");
        DUE.fault(5, "kind b rule go lot @0; go sum a s; add x 1; end end kind a secret s = 1; end kind a end");
        DUE.fault(4, "kind b rule add @x 1; go lot 0; end end kind b end");
        DUE.fault(4, "kind a has x = 1; rule if not 1 < 2 or 3 < @nobody end end");
        DUE.fault(1, "kind a rule add x 1; go lot 0; end @");
    }

    private static void whatAReadDoes() {
        MadeTown t = Due.town("set a = 1; kind k has x = 1; end");
        t.one(0, 0, 1);
        t.cause(0, 2);
        t.seen(1, 0, 0, 0, 5);
        t.span(0, 0, 4, 1);
        t.set(0, 5);
        DUE.is("read of a text with a FAULT", Due.read(t, "set b = 2; set b = 3;"), 3);
        DUE.is("its place", t.place(), 15);
        DUE.is("place once more", t.place(), 15);
        for (int what = 0; what <= 5; what++) {
            DUE.is("nothing has changed: count " + what, t.count(what), 1);
        }
        DUE.is("nothing has changed: setting", t.setting(0), 5);
        DUE.is("the tape is empty", t.count(6), 0);
        t.order(true);
        DUE.is("read of another one", Due.read(t, "set b = 2; set c = 3; kind l end"), 0);
        DUE.is("place without", t.place(), -1);
        int[] counts = {2, 1, 0, 0, 0, 0, 0};
        for (int what = 0; what <= 6; what++) {
            DUE.is("THE WORLD is another one: count " + what, t.count(what), counts[what]);
        }
        DUE.is("setting 1", t.setting(1), 3);
        DUE.is("vars of kind 0", t.count(10), 0);
        DUE.is("a grid without SPANS", t.meets(3), 1);
        DUE.is("a read of nothing", t.read(), 0);
        DUE.is("no kinds", t.count(1), 0);
    }
}
