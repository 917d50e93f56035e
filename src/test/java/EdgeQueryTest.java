/** Terms III: a query's grammar and its FAULTS, each sentence at its edges. */
public final class EdgeQueryTest {
    private static final Bench BENCH = new Bench();
    private static final String B = "\t\n\r ";
    private static final String NONZERO = "123456789";
    private static final String DIGITS = "0" + NONZERO;
    private static final String HEX = DIGITS + "abcdefABCDEF";
    private static final String SMALL = "abcdefghijklmnopqrstuvwxyz";
    private static final String FIRST = SMALL + "ABCDEFGHIJKLMNOPQRSTUVWXYZ_";
    private static final String MORE = FIRST + DIGITS;
    private static final String WORD = SMALL + DIGITS + "_(";
    private static final String OP = "=!<>";
    private static final String JOIN = "&|";
    private static final String SELECTOR = B + DIGITS + "-:*?'\"";
    private static final String COMPARABLE = B + DIGITS + SMALL + "-'\"@$";
    private static final String BASIC = COMPARABLE + "!(";
    private static final String INSIDE = inside();

    public static void main(String[] args) {
        dueSegments();
        dueNames();
        dueBrackets();
        dueStrings();
        dueIndexes();
        dueSlices();
        dueLogic();
        dueNot();
        dueComparisons();
        dueSingular();
        dueWords();
        dueFunctions();
        dueTypes();
        dueTests();
        dueRange();
        dueLimit();
        dueLeast();
        dueBytes();
        BENCH.end();
    }

    private static String inside() {
        StringBuilder all = new StringBuilder();
        for (char c = 32; c < 128; c++) {
            all.append(c);
        }
        return all.toString();
    }

    private static void dueGoesOn(String more, String... texts) {
        for (String text : texts) {
            BENCH.dueGoesOn(false, text, more);
        }
    }

    private static void dueEach(String want, String... texts) {
        for (String text : texts) {
            BENCH.dueQuery(text, want);
        }
    }

    private static void dueSegments() {
        BENCH.sentence("$ and SEGMENTS, each with S ahead");
        dueGoesOn("$", "");
        dueGoesOn(B + ".[", "$", "$ ", "$\t\r\n", "$.*", "$..*", "$[0]", "$..[0]", "$.a ", "$['a'] ");
        dueEach("0@-1", "$", "$.a", "$\n.a\t[0]\r..b", "$ ..*");
        for (String text : new String[] {"", "$ ", "$.a ", "$.", "$..", "$[", "$[0", "$[0 ", "$[0,", "$[?@", "$ \n\t"}) {
            BENCH.dueQuery(text, "1@" + text.length());
        }
        BENCH.dueQuery("$" + Bench.repeat(" ", 1197) + ".a", "0@-1");
    }

    private static void dueNames() {
        BENCH.sentence("NAME: a letter, _ or a character from 128 on, then these and digits");
        dueGoesOn(FIRST + "*.", "$.");
        dueGoesOn(FIRST + "*[", "$..");
        dueGoesOn(MORE + B + ".[", "$.a", "$.Z", "$._", "$.z9", "$..A", "$.a0_Z");
        for (String one : new String[] {"\u0080", "\u00ff", "\u07ff", "\u0800", "\ud7ff", "\ue000", "\uffff", "\ud800\udc00",
            "\udbff\udfff"}) {
            dueEach("0@-1", "$." + one, "$.." + one, "$.a" + one, "$." + one + "9", "$." + one + one, "$[?@." + one + "==1]");
        }
        dueEach("1@2", "$.\u007f", "$.9", "$.-", "$. a", "$.'a'");
        dueEach("1@3", "$.a\u007f", "$.a-", "$..9", "$.. a", "$.. [0]", "$...a");
    }

    private static void dueBrackets() {
        BENCH.sentence("[ S SELECTOR { S , S SELECTOR } S ]");
        dueGoesOn(SELECTOR, "$[", "$[ ", "$..[", "$[0,", "$[0 , ", "$[*,", "$['a',", "$[?@,", "$[:,");
        dueGoesOn(B + ",]", "$[*", "$[* ", "$['a'", "$[\"a\"", "$['a' ", "$[0,*", "$[?@,*", "$..[*");
        dueEach("1@2", "$[]", "$[,0]", "$[a]", "$[@]", "$[$]", "$[(0)]");
        dueEach("0@-1", "$[\t0\n,\r* ,'a', : ,?@ ]", "$[" + Bench.repeat("*,", 598) + "*]");
    }

    private static void dueStrings() {
        BENCH.sentence("a string (between \" and \" as above, \\' being none; or between ' and ', where \\' is one and \\\" none)");
        dueGoesOn(INSIDE, "$['", "$[\"", "$['\"", "$[\"'", "$['\\'", "$[\"\\\"", "$['\\u0041", "$['\\ud83d\\ude00", "$['\\u005c");
        dueGoesOn("'\\/bfnrtu", "$['\\", "$[?@=='\\", "$[?'\\", "$[?@==@['\\");
        dueGoesOn("\"\\/bfnrtu", "$[\"\\", "$[?@==\"\\", "$[?\"\\", "$[?@==@[\"\\");
        dueGoesOn(HEX, "$['\\u", "$[\"\\uF", "$['\\u00", "$['\\u004", "$['\\ud8", "$['\\ud83d\\udc", "$['\\ud83d\\udc0");
        dueGoesOn("0123456789abAB", "$['\\ud", "$[\"\\uD");
        dueGoesOn("\\", "$['\\ud83d", "$[\"\\uDBFF");
        dueGoesOn("u", "$['\\ud83d\\");
        dueGoesOn("dD", "$['\\ud83d\\u");
        dueGoesOn("cdefCDEF", "$['\\ud83d\\ud");
        dueEach("0@-1", "$['']", "$[\"\"]", "$['\\\\']", "$[\"\\\\\"]", "$['\\'\"']", "$[\"'\\\"\"]");
        BENCH.dueFound("{\"'\":1,\"\\\"\":2,\"\\\\\":3,\"/\":4}", "$['\\'','\"','\\\\','\\/','/',\"'\",\"\\\"\"]",
                "['\\''] ['\"'] ['\\\\'] ['/'] ['/'] ['\\''] ['\"']", 7);
        BENCH.dueFound("{\"\\b\\f\\n\\r\\t\":1,\"A\":2,\"\uD83D\uDE00\":3}", "$['\\b\\f\\n\\r\\t','\\u0041','\\uD83D\\uDE00']",
                "['\\b\\f\\n\\r\\t'] ['A'] ['\uD83D\uDE00']", 3);
    }

    private static void dueIndexes() {
        BENCH.sentence("INT (without -0)");
        dueGoesOn(NONZERO, "$[-", "$[0,-", "$[?@[-", "$[?1==@[-");
        dueGoesOn(B + ",]:", "$[0", "$[0 ", "$[1 ", "$[*,0");
        dueGoesOn(DIGITS + B + ",]:", "$[1", "$[-1", "$[10", "$[-90");
        dueEach("1@3", "$[-0]", "$[-00]", "$[-01]", "$[00]", "$[01]", "$[0.0]", "$[0e0]", "$[-]", "$[- 1]", "$[--1]");
        dueEach("0@-1", "$[0]", "$[-1]", "$[10]", "$[-10]", "$[9]", "$[-9]");
    }

    private static void dueSlices() {
        BENCH.sentence("[INT S] : S [INT S] [: [S INT]]");
        dueGoesOn(B + DIGITS + "-:,]", "$[:", "$[: ", "$[1:", "$[1 :", "$[-1:\n", "$[0,:");
        dueGoesOn(DIGITS + B + ":,]", "$[:1", "$[1:2", "$[:-1");
        dueGoesOn(B + ":,]", "$[:0", "$[:1 ", "$[1:0");
        dueGoesOn(B + DIGITS + "-,]", "$[::", "$[:: ", "$[1:2:", "$[:2 :", "$[1::\t");
        dueGoesOn(DIGITS + B + ",]", "$[::1", "$[1:2:3", "$[::-1");
        dueGoesOn(B + ",]", "$[::0", "$[::1 ", "$[::-1\n");
        dueGoesOn(NONZERO, "$[:-", "$[::-", "$[1:-", "$[1:2:-");
        dueEach("0@-1", "$[:]", "$[::]", "$[1:]", "$[:1]", "$[::1]", "$[1:2]", "$[1::3]", "$[:2:3]", "$[1:2:3]", "$[1:2:]", "$[::0]",
                "$[ 1 : 2 : 3 ]", "$[\t:\n:\r]", "$[:: 3]", "$[1 :: 3]");
    }

    private static void dueLogic() {
        BENCH.sentence("? S OR.  OR: AND { S || S AND }.  AND: BASIC { S && S BASIC }");
        dueGoesOn(BASIC, "$[?", "$[? ", "$[?(", "$[?( ", "$[?@&&", "$[?@ && ", "$[?@||", "$[?@ || ", "$[?(@)&&", "$[?1==1||", "$[?@&&(",
                "$[0,?", "$[?@[?");
        dueGoesOn("&", "$[?@&", "$[?@ &", "$[?(@)&", "$[?1==1&", "$[?f()&", "$[?!@&");
        dueGoesOn("|", "$[?@|", "$[?@ |", "$[?(@)|", "$[?1==1|", "$[?f()|", "$[?!@|");
        dueGoesOn(B + JOIN + ",]", "$[?(@)", "$[?(@) ", "$[?!(@)", "$[?((@))", "$[?@&&(@)");
        dueGoesOn(B + JOIN + ")", "$[?((@)", "$[?((@) ");
        dueGoesOn(B + JOIN + OP + ".[)", "$[?(@", "$[?(@ ", "$[?(@&&@");
        dueGoesOn(B + JOIN + OP + ".[,]", "$[?@", "$[?@ ", "$[?$", "$[?@&&@", "$[?@||@", "$[?(@)||@");
        BENCH.dueQuery("$[?" + Bench.repeat("@||", 398) + "@]", "0@-1");
        BENCH.dueQuery("$[?" + Bench.repeat("@&&", 398) + "@]", "0@-1");
    }

    private static void dueNot() {
        BENCH.sentence("BASIC: [! S] ( S OR S )  |  COMPARABLE S OP S COMPARABLE  |  [! S] TEST");
        dueGoesOn(B + SMALL + "(@$", "$[?!", "$[?! ", "$[?@&&!", "$[?(!", "$[?f(!");
        dueGoesOn(B + JOIN + ".[,]", "$[?!@", "$[?!@ ", "$[?!$", "$[?!@[0]", "$[?!@.*");
        dueGoesOn(B + JOIN + ".[,]" + MORE, "$[?!@.a");
        dueGoesOn(B + JOIN + ",]", "$[?!f()", "$[?! f() ");
        dueGoesOn(WORD, "$[?!true", "$[?!null", "$[?!false", "$[?!a");
        dueEach("1@4", "$[?!1==1]", "$[?!'a'=='a']", "$[?!-1<0]", "$[?!!@]");
        dueEach("1@5", "$[?!@==1]", "$[?!@<1]", "$[?!@!=1]");
        dueEach("1@8", "$[?!true]", "$[?!true==1]", "$[?!null ==1]");
        dueEach("0@-1", "$[?!(@==1)]", "$[?!(1==1)&&!@||!$]");
    }

    private static void dueComparisons() {
        BENCH.sentence("OP: == != <= >= < >");
        dueGoesOn("=", "$[?@=", "$[?@!", "$[?1=", "$[?1!", "$[?'a' =", "$[?f() !", "$[?@ !");
        dueGoesOn(COMPARABLE + "=", "$[?@<", "$[?@>", "$[?1<", "$[?f()>");
        dueGoesOn(COMPARABLE, "$[?@==", "$[?@!=", "$[?@<=", "$[?@>=", "$[?@< ", "$[?@> ", "$[?@== ", "$[?f(1==");
        BENCH.sentence("COMPARABLE: an INT (-0, too), a string, true, false, null, a SINGULAR one, a FUNCTION");
        dueGoesOn(DIGITS, "$[?-", "$[?1==-", "$[?f(-");
        dueGoesOn(B + OP, "$[?0", "$[?-0", "$[?1 ", "$[?'a'", "$[?\"a\"", "$[?'a' ", "$[?true ", "$[?null ", "$[?false ");
        dueGoesOn(B + OP + DIGITS, "$[?1", "$[?-1", "$[?10");
        dueGoesOn(B + OP + WORD, "$[?true", "$[?false", "$[?null");
        dueGoesOn(B + OP + JOIN + ",]", "$[?f()", "$[?f() ", "$[?length(@)");
        dueGoesOn(B + JOIN + ",]", "$[?1==0", "$[?1==-0", "$[?1=='a'", "$[?1==1 ", "$[?1==f()", "$[?1==null ");
        dueGoesOn(B + JOIN + ",]" + DIGITS, "$[?1==1", "$[?1==-1");
        dueGoesOn(B + JOIN + ",]" + WORD, "$[?1==true", "$[?1==false", "$[?1==null");
        dueEach("0@-1", "$[?-0==@]", "$[?@==-0]", "$[?true!=false]", "$[?null<=@]", "$[?'a'>=\"a\"]", "$[?@.a<@['a']]", "$[?$>@]");
        dueEach("1@4", "$[?1]", "$[?1&&@]", "$[?0,@]");
        dueEach("1@7", "$[?1==1==1]", "$[?1==1<2]", "$[?null]", "$[?null&&@]");
    }

    private static void dueSingular() {
        BENCH.sentence("SINGULAR: a PATH whose SEGMENTS all are . NAME, [ string ] or [ INT ] (no S within these [ ])");
        String[] others = {".*", "..a", "..*", "[*]", "[0,1]", "['a','b']", "[:]", "[0:1]", "[?@]", "[ 0]", "[0 ]", "['a' ]", "[ 'a']",
            "[\t\"a\"]", "..[0]", "..['a']", ".*.a", ".a.*", "[0][*]", "[*][0]", ".a..b"};
        for (String other : others) {
            BENCH.dueQuery("$[?@" + other + "]", "0@-1");
            BENCH.dueQuery("$[?$" + other + "]", "0@-1");
            BENCH.dueQuery("$[?value(@" + other + ")==1]", "0@-1");
        }
        for (String one : new String[] {"", ".a", "['a']", "[\"a\"]", "[0]", "[-1]", " .a", "\n[0]\t['a'] .b", "['a'][0].b"}) {
            dueEach("0@-1", "$[?@" + one + "==1]", "$[?1==@" + one + "]", "$[?$" + one + " <= @" + one + " ]", "$[?length(@" + one + ")==1]");
        }
        BENCH.sentence("behind a PATH that is no SINGULAR one an OP is FORM at its first byte");
        for (String other : others) {
            for (String op : new String[] {"==", "!=", "<=", ">=", "<", ">", " ==", "\t<"}) {
                int place = ("$[?@" + other + op).length() - op.trim().length();
                BENCH.dueQuery("$[?@" + other + op + "1]", "1@" + place);
                BENCH.dueQuery("$[?$" + other + op + "1]", "1@" + place);
                BENCH.dueQuery("$[?f(@" + other + op + "1)]", "1@" + (place + 2));
            }
        }
        BENCH.sentence("right of an OP the first byte that makes a PATH none");
        dueGoesOn(B + JOIN + ".[,]", "$[?1==@", "$[?1==$", "$[?1==@ ", "$[?1==@[0]", "$[?1==@['a']", "$[?1==@[0] ");
        dueGoesOn(B + JOIN + ".[,]" + MORE, "$[?1==@.a", "$[?1<@.a.b", "$[?1>= @[0] .c");
        dueGoesOn(FIRST, "$[?1==@.", "$[?1==@.a.", "$[?1<$ .");
        dueGoesOn(DIGITS + "-'\"", "$[?1==@[", "$[?1==@.a[", "$[?1!=$[0] [");
        dueGoesOn("]", "$[?1==@[0", "$[?1==@['a'", "$[?1==@[\"a\"");
        dueGoesOn(DIGITS + "]", "$[?1==@[1", "$[?1==@[-1");
        dueGoesOn(NONZERO, "$[?1==@[-");
        dueGoesOn(B + JOIN + ".[,)", "$[?f(1==@", "$[?f(1==@[0]");
        dueEach("0@-1", "$[?1==@.a&&@.*]", "$[?1==@||@..a]", "$[?1==count(@.*)]");
    }

    private static void dueWords() {
        BENCH.sentence("small letters, digits, _ that begin a FUNCTION's name are as long as they stand: without ( right behind, and not true, "
                + "false, null, FORM at the byte behind");
        dueGoesOn(WORD, "$[?a", "$[?z", "$[?a_", "$[?a9", "$[?tru", "$[?nulll", "$[?true_", "$[?true1", "$[?length", "$[?1==a", "$[?1==tru",
                "$[?f(a", "$[?f(1==a", "$[?@&&nul", "$[?(fals");
        for (String word : new String[] {"a", "tru", "truee", "nul", "null_", "xull", "nxll", "nuxl", "nulx", "xrue", "txue", "trxe", "trux",
            "xalse", "fxlse", "faxse", "falxe", "falsx", "length", "a_1"}) {
            int behind = 3 + word.length();
            BENCH.dueQuery("$[?" + word + "]", "1@" + behind);
            BENCH.dueQuery("$[?" + word + "==1]", "1@" + behind);
            BENCH.dueQuery("$[?" + word + " ==1]", "1@" + behind);
            BENCH.dueQuery("$[?" + word, "1@" + behind);
            BENCH.dueQuery("$[?" + word + " (@)==1]", "1@" + behind);
            BENCH.dueQuery("$[?1==" + word + "]", "1@" + (3 + behind));
            BENCH.dueQuery("$[?f(" + word + ")]", "1@" + (2 + behind));
            BENCH.dueQuery("$[?!" + word + "]", "1@" + (1 + behind));
        }
    }

    private static void dueFunctions() {
        BENCH.sentence("FUNCTION: a small letter, then these, _, digits; ( S [ARGUMENT { S , S ARGUMENT }] S )");
        dueGoesOn(BASIC + ")", "$[?f(", "$[?f( ", "$[?length(", "$[?1==f(", "$[?f(g(");
        dueGoesOn(BASIC, "$[?f(1,", "$[?f(1, ", "$[?f(@,", "$[?f(@==1 ,", "$[?f(g(),", "$[?f((");
        dueGoesOn(B + OP + ",)", "$[?f(0", "$[?f(-0", "$[?f(1 ", "$[?f('a'", "$[?f(true ", "$[?f(1,\"a\"");
        dueGoesOn(B + OP + ",)" + DIGITS, "$[?f(1", "$[?f(1,1");
        dueGoesOn(B + OP + ",)" + WORD, "$[?f(true", "$[?f(null", "$[?f(1,false");
        dueGoesOn(B + OP + JOIN + ",).[", "$[?f(@", "$[?f($", "$[?f(@ ", "$[?f(@[0]", "$[?f(1,@");
        dueGoesOn(B + JOIN + ",).[", "$[?f(@.*", "$[?f(@[*]", "$[?f(@[0 ]", "$[?f(@.* ", "$[?f(!@", "$[?f(1,!$");
        dueGoesOn(B + OP + JOIN + ",)", "$[?f(g()", "$[?f(g() ", "$[?f(1,g()");
        dueGoesOn(B + JOIN + ",)", "$[?f((@)", "$[?f(!g()", "$[?f(1==0", "$[?f(1==1 ", "$[?f((@) ");
        dueGoesOn(B + OP + JOIN + ",).[", "$[?f(@&&@", "$[?f(@||$", "$[?f(1==1&&@");
        dueGoesOn(B + OP + DIGITS, "$[?f(@&&1", "$[?f(1==1||1");
        dueGoesOn("&", "$[?f(@&", "$[?f(1==1&", "$[?f(g() &");
        dueGoesOn("|", "$[?f(@|", "$[?f(1==1|", "$[?f(g() |");
        dueEach("0@-1", "$[?length( @ )==1]", "$[?count(\t@.*\n)==1]", "$[?value( $ )== length( 'a' )]");
        dueEach("2@3", "$[?f( )]", "$[?f()]", "$[?f(1 , 'a' , true , @ , @.* , g( ) , @==1 , !@ , (@) , @&&@ , 1 <= 2)]", "$[?f(1 ==1)]",
                "$[?f('a' <'b')]", "$[?f(true ==true)]", "$[?f(g() &&@)]", "$[?f(@ ||@)]");
        dueEach("1@9", "$[?length (@)==1]", "$[?length\t(@)==1]");
    }

    private static void dueTypes() {
        BENCH.sentence("2 TYPE: a FUNCTION that is none of length, count, value");
        for (String name : new String[] {"aength", "lxngth", "lengtx", "lengt", "lengthh", "length_", "xount", "coun", "counts", "cxunt",
            "xalue", "valu", "values", "valux", "true", "false", "null", "match", "search", "f"}) {
            BENCH.dueQuery("$[?" + name + "(@)==1]", "2@3");
            BENCH.dueQuery("$[?1==" + name + "(@)]", "2@6");
            BENCH.dueQuery("$[?length(" + name + "(@))==1]", "2@10");
        }
        BENCH.sentence("that has not one ARGUMENT");
        dueEach("2@3", "$[?length()==1]", "$[?length(@,@)==1]", "$[?count()==1]", "$[?count(@,@)==1]", "$[?value( )==1]",
                "$[?value(@,@,@)==1]", "$[?length('a','b')==1]");
        BENCH.sentence("whose ARGUMENT is not as wanted: length: a literal, a SINGULAR one, a FUNCTION");
        dueEach("0@-1", "$[?length(1)==1]", "$[?length(-0)==1]", "$[?length('a')==1]", "$[?length(true)==1]", "$[?length(false)==1]",
                "$[?length(null)==1]", "$[?length(@)==1]", "$[?length($.a[0]['b'])==1]", "$[?length(length(@))==1]",
                "$[?length(count(@.*))==1]", "$[?length(value(@.*))==1]");
        dueEach("2@3", "$[?length(@.*)==1]", "$[?length(@..a)==1]", "$[?length(@[0 ])==1]", "$[?length(@[:])==1]", "$[?length(@==1)==1]",
                "$[?length((@))==1]", "$[?length(!@)==1]", "$[?length(@&&@)==1]", "$[?length(1==1)==1]", "$[?length(length(@)==1)==1]");
        BENCH.sentence("count, value: a PATH");
        for (String name : new String[] {"count", "value"}) {
            for (String path : new String[] {"@", "$", "@.a", "@.*", "$..a", "@[0,1]", "@[?@]", "@[ 0]", "$[1:2]"}) {
                BENCH.dueQuery("$[?" + name + "(" + path + ")==1]", "0@-1");
            }
            for (String other : new String[] {"1", "-0", "'a'", "true", "null", "length(@)", "count(@)", "value(@)", "(@)", "!@", "@&&@", "@==1",
                "@||@.*"}) {
                BENCH.dueQuery("$[?" + name + "(" + other + ")==1]", "2@3");
            }
        }
    }

    private static void dueTests() {
        BENCH.sentence("one that is a TEST (also one that is an ARGUMENT's OR): at its first byte");
        for (String name : new String[] {"length", "count", "value"}) {
            BENCH.dueQuery("$[?" + name + "(@)]", "2@3");
            BENCH.dueQuery("$[? " + name + "(@) ]", "2@4");
            BENCH.dueQuery("$[?!" + name + "(@)]", "2@4");
            BENCH.dueQuery("$[?(" + name + "(@))]", "2@4");
            BENCH.dueQuery("$[?@&&" + name + "(@)]", "2@6");
            BENCH.dueQuery("$[?@||@&& " + name + "(@)]", "2@10");
            BENCH.dueQuery("$[?" + name + "(@)||@]", "2@3");
            BENCH.dueQuery("$[?@[?" + name + "(@)]]", "2@6");
            BENCH.dueQuery("$[?@," + "?" + name + "(@)]", "2@6");
            BENCH.dueQuery("$[?" + name + "(@)==1&&" + name + "(@)]", "2@" + (3 + name.length() + 8));
        }
        // The ARGUMENT's OR makes the outer FUNCTION wrong as well, so a wrong outer one is told, and it is the first.
        dueEach("2@3", "$[?length(count(@)&&@)==1]", "$[?length((count(@)))==1]", "$[?count(!length(@))==1]");
    }

    private static void dueRange() {
        BENCH.sentence("3 RANGE: an INT beyond the range told above (at its first byte)");
        String[] places = {"$[_]", "$[0,_]", "$[ _ ]", "$[_:]", "$[:_]", "$[::_]", "$[1:2: _]", "$[1: _ :3]", "$..[_]", "$[?@[_]]", "$[?@[_]==1]",
            "$[?1==@[_]]", "$[?_==1]", "$[?1==_]", "$[?1<= _ ]", "$[?length(_)==1]", "$[?count(@[_])==1]", "$[?@[?@[_]]]", "$[?(@[_:])]"};
        for (String place : places) {
            int at = place.indexOf('_');
            for (String good : new String[] {"9007199254740991", "-9007199254740991", "0", "9007199254740990"}) {
                BENCH.dueQuery(place.replace("_", good), "0@-1");
            }
            for (String bad : new String[] {"9007199254740992", "-9007199254740992", "9223372036854775808", "-9223372036854775809",
                "18446744073709551616", "18446744073709551617", Bench.repeat("9", 1000), "-1" + Bench.repeat("0", 1000)}) {
                BENCH.dueQuery(place.replace("_", bad), "3@" + at);
            }
        }
    }

    private static void dueLimit() {
        BENCH.sentence("4 LIMIT: the 17th that would be open (at it; a [ at its ?)");
        String full = "$" + Bench.repeat("[?@", 16);
        String[] seventeenth = {"[_?", "[ _?", "[0,_?", "[*, _?", "[:,'a',_?", "..[_?", ".a[_?", "&&_(", "||_(", "&& _(", "&&!_(", "&&! _(", "&&f_(",
            "&&!f_(", "==f_(", "== length_(", "<count_(", "&&1==f_(", "&&true_(", ",?_("};
        for (String text : seventeenth) {
            BENCH.dueQuery(full + text.replace("_", ""), "4@" + (49 + text.indexOf('_')));
            BENCH.dueQuery(full + text.replace("_", "") + "x", "4@" + (49 + text.indexOf('_')));
        }
        BENCH.sentence("1 and 4: the first one from the left (1, where it can't stand there at all)");
        String[] none = {"_(", "._(", "[_(", "[_x", "==_(", "==_!(", ".*_(", "._?", "_?", "&_(", "&&f_ (", "==@[_?", "==@_(", "[0_?", "[0_(",
            "==_[", "&_|((", "=_(("};
        for (String text : none) {
            BENCH.dueQuery(full + text.replace("_", ""), "1@" + (49 + text.indexOf('_')));
        }
        BENCH.dueQuery(full + "]x[?", "1@50");
        BENCH.dueQuery(full + "&&(x", "4@51");
        BENCH.dueQuery(full + "[?@[?", "4@50");
    }

    private static void dueLeast() {
        BENCH.sentence("If there is neither: the least place of 2 and 3");
        String big = "9007199254740992";
        dueEach("2@3", "$[?f()]", "$[?f()," + big + "]", "$[?f(" + big + ")==" + big + "]", "$[?f()&&g()]", "$[?length(count(" + big + "))]",
                "$[?f(g(h()))]");
        dueEach("3@2", "$[" + big + "]", "$[" + big + ",?f()]", "$[" + big + "," + big + "]", "$[" + big + ":" + big + ":" + big + "]");
        dueEach("3@3", "$[?" + big + "==f()]", "$[?" + big + "==" + big + "]", "$[:" + big + ",?f()]");
        dueEach("3@10", "$[?length(" + big + ")==" + big + "]", "$[?length(" + big + ")==f()]");
        dueEach("2@10", "$[?length(f())==" + big + "]", "$[?length(f())==1&&f()]", "$[?length(count(1))==1]");
        BENCH.sentence("1 and 4 ahead of 2 and 3, wherever they stand");
        dueEach("1@7", "$[?f()]]", "$[?f()],", "$[?f()]?");
        dueEach("1@8", "$[?f()].", "$[?f()].9");
        dueEach("1@19", "$[" + big + "]x", "$[" + big + "]\u007f");
        dueEach("1@18", "$[" + big, "$[" + big + "x]");
        dueEach("4@68", "$[" + big + "]" + Bench.repeat("[?@", 16) + "[?", "$[" + big + "]" + Bench.repeat("[?@", 16) + "[?f()");
        BENCH.dueQuery("$[?f()]" + Bench.repeat("[?@", 16) + "&&(", "4@57");
        BENCH.dueQuery("$[?" + Bench.repeat("f(", 16), "4@34");
        BENCH.dueQuery("$[?" + Bench.repeat("f(", 15) + "x", "1@34");
    }

    private static void dueBytes() {
        BENCH.sentence("BYTES are UTF-8");
        String[] none = {"\u0080", "\u00bf\u0080", "\u00c3", "\u00c3\u007f", "\u00c0\u0080", "\u00ed\u00a0\u0080", "\u00f4\u0090\u0080\u0080",
            "\u00f8\u0090\u0080\u0080", "\u00ff", "\u00e2\u0082"};
        for (String bytes : none) {
            BENCH.dueRawQuery("$." + bytes, "1@2");
            BENCH.dueRawQuery("$.a" + bytes, "1@3");
            BENCH.dueRawQuery("$.." + bytes, "1@3");
            BENCH.dueRawQuery("$['" + bytes + "']", "1@3");
            BENCH.dueRawQuery("$[\"a" + bytes + "\"]", "1@4");
            BENCH.dueRawQuery("$[?'" + bytes + "'==1]", "1@4");
            BENCH.dueRawQuery("$[?1==@." + bytes + "]", "1@8");
            BENCH.dueRawQuery("$[?@==\"\u00c3\u00a9" + bytes + "\"]", "1@9");
            BENCH.dueRawQuery("$" + bytes, "1@1");
            BENCH.dueRawQuery(bytes, "1@0");
        }
    }
}
