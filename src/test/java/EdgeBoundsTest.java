/** Terms I: each bound, at the last step inside of it and at the first one outside. */
public final class EdgeBoundsTest {
    private static final Bench BENCH = new Bench();

    public static void main(String[] args) {
        dueTape();
        dueValues();
        dueDepth();
        dueDeepest();
        dueOpen();
        dueFindInOpen();
        dueOpenAgain();
        dueLongest();
        dueNodes();
        dueNodesInFilters();
        dueLooks();
        dueCalls();
        BENCH.end();
    }

    private static String ints(int n) {
        return "[" + Bench.repeat("1,", n - 1) + "1]";
    }

    private static void dueTape() {
        BENCH.sentence("THE TAPE 1,200 bytes");
        PathHouse x = new PathHouse();
        for (int i = 1; i <= 60; i++) {
            BENCH.due("feed", x.feed(i == 1 ? 0x5B202020 : 0x20202020, 0x20202020, 0x20202020, 0x20202020,
                    i == 60 ? 0x2020205D : 0x20202020), 20 * i);
        }
        BENCH.due("feed of a full TAPE", x.feed(0, 0, 0, 0, 0), PathHouse.NONE);
        BENCH.due("about(6)", x.about(6), 1200);
        BENCH.due("json(1201)", x.json(1201), PathHouse.NONE);
        BENCH.due("json(1200)", x.json(1200), 0);
        BENCH.due("about(0)", x.about(0), 1);
    }

    private static void dueValues() {
        BENCH.sentence("300 VALUES in all (itself, elements, members' values)");
        BENCH.dueJson(ints(299), "0@-1");
        BENCH.dueJson(ints(300), "4@599");
        String array = "[" + Bench.repeat("1,", 100) + "[" + Bench.repeat("1,", 100) + "[" + Bench.repeat("1,", 96) + "1";
        BENCH.dueJson(array + "]]]", "0@-1");
        BENCH.dueJson(array + ",1]]]", "4@" + (array.length() + 1));
        BENCH.dueJson(array + "],1]]", "4@" + (array.length() + 2));
        BENCH.dueJson(array + "]],1]", "4@" + (array.length() + 3));
        StringBuilder members = new StringBuilder("[{\"\":1");
        for (int i = 1; i < 120; i++) {
            members.append(",\"").append((char) (0x100 + i)).append("\":1");
        }
        String object = members + "}";
        BENCH.dueJson(object + Bench.repeat(",1", 178) + "]", "0@-1");
        BENCH.dueJson(object + Bench.repeat(",1", 179) + "]", "4@" + (Bench.utf8(object).length + 2 * 178 + 1));
        BENCH.dueJson("[" + Bench.repeat("1,", 297) + "{\"a\":1}]", "0@-1");
        BENCH.dueJson("[" + Bench.repeat("1,", 297) + "{\"a\":1,\"b\":1}]", "4@" + (1 + 2 * 297 + 11));
        PathHouse x = new PathHouse();
        Bench.json(x, ints(299));
        BENCH.due("about(0)", x.about(0), 300);
        BENCH.due("about(1)", x.about(1), 2);
    }

    private static void dueDepth() {
        BENCH.sentence("30 of them within one another");
        for (String inner : new String[] {"[]", "{}", "1", "\"a\"", "null", "true", "false", "-7"}) {
            BENCH.dueJson(Bench.repeat("[", 29) + inner + Bench.repeat("]", 29), "0@-1");
            BENCH.dueJson(Bench.repeat("[", 30) + inner + Bench.repeat("]", 30), "4@30");
            BENCH.dueJson(Bench.repeat("{\"a\":", 29) + inner + Bench.repeat("}", 29), "0@-1");
            BENCH.dueJson(Bench.repeat("{\"a\":", 30) + inner + Bench.repeat("}", 30), "4@150");
        }
        BENCH.dueJson(Bench.repeat("[{\"a\":", 15) + Bench.repeat("}]", 15), "1@90");
        BENCH.dueJson(Bench.repeat("[{\"a\":", 14) + "[{}]" + Bench.repeat("}]", 14), "0@-1");
        BENCH.dueJson(Bench.repeat("[{\"a\":", 14) + "[[1]]" + Bench.repeat("}]", 14), "4@86");
        String beside = Bench.repeat("[", 28) + "[[],[],[]],[{},1]" + Bench.repeat("]", 28);
        BENCH.dueJson(beside, "0@-1");
        PathHouse x = new PathHouse();
        Bench.json(x, beside);
        BENCH.due("about(1)", x.about(1), 30);
        BENCH.due("about(0)", x.about(0), 35);
    }

    // The deepest VALUE can be told, held against another one and written like any other.
    private static void dueDeepest() {
        String arrays = Bench.repeat("[", 29) + "7" + Bench.repeat("]", 29);
        PathHouse x = BENCH.dueFind(arrays, "$..[?@==7]", 1, 30 * 2 + 29 * 2);
        BENCH.due("path(0)", Bench.path(x, 0), "$" + Bench.repeat("[0]", 29));
        BENCH.due("found(0, 2)", x.found(0, 2), 29);
        String objects = Bench.repeat("{\"a\":", 29) + "[]" + Bench.repeat("}", 29);
        PathHouse y = BENCH.dueFind(objects, "$" + Bench.repeat(".a", 29), 1, 29);
        BENCH.due("path(0)", Bench.path(y, 0), "$" + Bench.repeat("['a']", 29));
        BENCH.due("text of " + arrays, Bench.longOut(arrays, "$", false), arrays);
        BENCH.due("text of " + objects, Bench.longOut(objects, "$", false), objects);
        BENCH.dueFind(arrays, "$[?$==$]", 1, 1 + 1 + 30);
        BENCH.dueFind(objects, "$[?$<=$]", 1, 1 + 1 + 30);
        BENCH.dueFind(arrays, "$[?$==@]", 0, 1 + 1 + 29);
    }

    private static void dueOpen() {
        BENCH.sentence("a query: 16 OPEN ones of ( , [? and the ( of functions within one another");
        String filters = "$" + Bench.repeat("[?@", 15);
        String close = Bench.repeat("]", 15);
        BENCH.dueQuery(filters + "[?@]" + close, "0@-1");
        BENCH.dueQuery(filters + "[?@[?@]]" + close, "4@50");
        BENCH.dueQuery(filters + "&&(@)" + close, "0@-1");
        BENCH.dueQuery(filters + "&&((@))" + close, "4@49");
        BENCH.dueQuery(filters + "&&count(@)==1" + close, "0@-1");
        BENCH.dueQuery(filters + "&&count(@[?@])==1" + close, "4@56");
        BENCH.dueQuery(filters + "&&(count(@)==1)" + close, "4@54");
        BENCH.dueQuery(filters + "&&length(length(@))==1" + close, "4@61");
        BENCH.dueQuery("$[?" + Bench.repeat("(", 15) + "@" + Bench.repeat(")", 15) + "]", "0@-1");
        BENCH.dueQuery("$[?" + Bench.repeat("(", 16) + "@" + Bench.repeat(")", 16) + "]", "4@18");
        BENCH.dueQuery("$[?" + Bench.repeat("!(", 15) + "@" + Bench.repeat(")", 15) + "]", "0@-1");
        BENCH.dueQuery("$[?" + Bench.repeat("!(", 16) + "@" + Bench.repeat(")", 16) + "]", "4@34");
        BENCH.dueQuery("$[?" + Bench.repeat("length(", 15) + "@" + Bench.repeat(")", 15) + "==1]", "0@-1");
        BENCH.dueQuery("$[?" + Bench.repeat("length(", 16) + "@" + Bench.repeat(")", 16) + "==1]", "4@114");
        BENCH.dueQuery("$" + Bench.repeat("[?(count(@", 5) + "[?@]" + Bench.repeat(")==1)]", 5), "0@-1");
        BENCH.dueQuery("$" + Bench.repeat("[?(count(@", 5) + "[?(@)]" + Bench.repeat(")==1)]", 5), "4@53");
    }

    // Sixteen filters within one another are asked, each with nodelists of its own.
    private static void dueFindInOpen() {
        BENCH.dueFind("[1]", "$" + Bench.repeat("[?$", 16) + Bench.repeat("]", 16), 1, 32);
        // Of n filters the outermost costs 1 + 2 * (1 + what the one inside of it costs): 3 * (2^n - 1) LOOKS.
        BENCH.dueFind("[1,2]", "$" + Bench.repeat("[?$", 14) + Bench.repeat("]", 14), 2, 3 * 16383);
        BENCH.dueFind("[1,2]", "$" + Bench.repeat("[?$", 15) + Bench.repeat("]", 15), PathHouse.TIRED, 60000);
        String deep = Bench.repeat("[", 17) + "7" + Bench.repeat("]", 17);
        PathHouse x = BENCH.dueFind(deep, "$" + Bench.repeat("[?@", 15) + "[?@[0]==7]" + Bench.repeat("]", 15), 1, 16 * 2 + 2);
        BENCH.due("path(0)", Bench.path(x, 0), "$[0]");
        BENCH.dueFind("[1]", "$[?" + Bench.repeat("!(", 15) + "@" + Bench.repeat(")", 15) + "]", 0, 2);
        BENCH.dueFind("[\"a\"]", "$[?" + Bench.repeat("length(", 15) + "@" + Bench.repeat(")", 15) + "==$.x]", 1, 3);
        BENCH.dueFind("[1]", "$" + Bench.repeat("[?(count($", 5) + "[?@]" + Bench.repeat(")==1)]", 5), 1, 5 * 3 + 2);
    }

    // What has been closed is not open: it does not count for what stands behind it.
    private static void dueOpenAgain() {
        BENCH.dueQuery("$" + Bench.repeat("[?@]", 17), "0@-1");
        BENCH.dueQuery("$[" + Bench.repeat("?@,", 17) + "?@]", "0@-1");
        BENCH.dueQuery("$[?" + Bench.repeat("(@)||", 17) + "@]", "0@-1");
        BENCH.dueQuery("$[?" + Bench.repeat("1==count(@)&&", 17) + "@]", "0@-1");
        BENCH.dueQuery("$[?f(" + Bench.repeat("(@),", 17) + "g())]", "2@3");
        BENCH.dueQuery("$" + Bench.repeat("[0]", 17) + Bench.repeat("['a']", 17) + Bench.repeat("[:]", 17) + "..[*]", "0@-1");
        BENCH.dueQuery("$[?@" + Bench.repeat("[0]", 17) + "]", "0@-1");
        // Nor does what a query with a fault has left open.
        PathHouse x = new PathHouse();
        for (String bad : new String[] {"$" + Bench.repeat("[?@", 16), "$[?" + Bench.repeat("(", 15), "$[?" + Bench.repeat("f(", 16)}) {
            BENCH.due("query of " + bad, Bench.query(x, bad) > 0 ? 1 : 0, 1);
            BENCH.due("query", Bench.query(x, "$" + Bench.repeat("[?@", 16) + Bench.repeat("]", 16)), 0);
        }
    }

    private static void dueLongest() {
        BENCH.sentence("each of them at most 1,200 bytes");
        BENCH.dueJson("\"" + Bench.repeat("a", 1198) + "\"", "0@-1");
        BENCH.dueJson("\"" + Bench.repeat("a", 1199), "1@1200");
        BENCH.dueJson(Bench.repeat(" ", 600) + "{}" + Bench.repeat("\n", 598), "0@-1");
        BENCH.dueQuery("$['" + Bench.repeat("a", 1195) + "']", "0@-1");
        BENCH.dueQuery("$['" + Bench.repeat("a", 1197), "1@1200");
        BENCH.dueQuery("$." + Bench.repeat("\u00e9", 599), "0@-1");
        BENCH.dueQuery("$[?(" + Bench.repeat("@||", 398) + "@)", "1@1200");
        BENCH.dueQuery("$[?(" + Bench.repeat("@||", 397) + "@  )]", "0@-1");
        BENCH.dueQuery("$" + Bench.repeat(".a", 598) + ".ab", "0@-1");
        PathHouse x = new PathHouse();
        Bench.query(x, "$" + Bench.repeat(".a", 598) + ".ab");
        BENCH.due("about(2)", x.about(2), 599);
    }

    private static void dueNodes() {
        BENCH.sentence("The nodelist that a SEGMENT gives has 1,000 nodes at most");
        BENCH.dueFind(ints(250), "$[*,*,*,*]", 1000, 4);
        BENCH.dueFind(ints(250), "$[*,*,*,*,0]", PathHouse.MANY, 5);
        BENCH.dueFind(ints(250), "$[*,*,*,*,'a']", 1000, 5);
        BENCH.dueFind(ints(250), "$[*,*,*,*,250]", 1000, 5);
        BENCH.dueFind(ints(250), "$[*,*,*,*,:1]", PathHouse.MANY, 5);
        BENCH.dueFind(ints(250), "$[*,*,*,*,-1:-2:-1]", PathHouse.MANY, 5);
        BENCH.dueFind(ints(250), "$[*,*,*,*,?@==1]", PathHouse.MANY, 5 + 2);
        BENCH.dueFind(ints(250), "$[*,*,*,*,?@==2]", 1000, 5 + 250 * 2);
        BENCH.dueFind("{\"a\":" + ints(250) + "}", "$.a[:,:,:,:]", 1000, 5);
        BENCH.dueFind("{\"a\":" + ints(250) + "}", "$['a','a'].*.x", 0, 2 + 2 + 500);
        BENCH.dueFind("{\"a\":" + ints(250) + "}", "$['a','a','a','a','a'].*", PathHouse.MANY, 5 + 5);
        BENCH.dueFind("{\"a\":" + ints(250) + "}", "$['a','a','a','a','a'].*.x", PathHouse.MANY, 5 + 5);
        BENCH.dueFind("{\"a\":" + ints(250) + "}", "$['a','a','a','a'].*.x", 0, 4 + 4 + 1000);
        BENCH.dueFind("[" + ints(249) + "]", "$..[*,*,*,*]", 1000, 251 * 5);
        BENCH.dueFind("[" + ints(250) + "]", "$..[*,*,*,*]", PathHouse.MANY, 5 + 5);
    }

    private static void dueNodesInFilters() {
        BENCH.sentence("The nodelist that a SEGMENT gives (in filters, too) has 1,000 nodes at most");
        String[] tests = {"$.b[*,*,*,*]", "!$.b[*,*,*,*]", "count($.b[*,*,*,*])==1000", "1000==count($.b[*,*,*,*])",
            "value($.b[*,*,*,*])==1", "length(value($.b[*,*,*,*]))==1", "$.a[?$.b[*,*,*,*]]", "$.b[*,*,*,*].x", "(!($.b[*,*,*,*]))"};
        for (String test : tests) {
            PathHouse x = Bench.house("{\"a\":[1],\"b\":" + ints(250) + "}", "$.a[?" + test + "]");
            BENCH.due(test + ": find() at 1,000", x.find() >= 0 ? 1 : 0, 1);
            PathHouse y = Bench.house("{\"a\":[1],\"b\":" + ints(251) + "}", "$.a[?" + test + "]");
            BENCH.due(test + ": find() at 1,004", y.find(), PathHouse.MANY);
            BENCH.due(test + ": about(5)", y.about(5), 0);
        }
        BENCH.dueFind("{\"a\":[1],\"b\":" + ints(250) + "}", "$.a[?$.b[*,*,*,*]]", 1, 1 + 1 + 1 + 5);
        BENCH.dueFind("{\"a\":[1],\"b\":" + ints(250) + "}", "$.a[?$.b[*,*,*,*,-1]]", PathHouse.MANY, 1 + 1 + 1 + 6);
        BENCH.dueFind("{\"a\":[1],\"b\":" + ints(251) + "}", "$.a[?@||$.b[*,*,*,*]]", 1, 1 + 1 + 1);
        BENCH.dueFind("{\"a\":[],\"b\":" + ints(251) + "}", "$.a[?$.b[*,*,*,*]]", 0, 1 + 1);
    }

    // 1 + n * (1 + 299 + 1) + m: an OR, 299 selectors and an == for each of n INTS, then m selectors of one LOOK each.
    private static void dueLooks() {
        BENCH.sentence("a find() 60,000 LOOKS");
        String most = "$[?count($[" + Bench.repeat("0,", 298) + "0])==0";
        BENCH.dueFind(ints(199), most + Bench.repeat(",9", 99) + "]", 99, 1 + 199 * 301 + 99);
        BENCH.dueFind(ints(199), most + Bench.repeat(",9", 100) + "]", 100, 1 + 199 * 301 + 100);
        BENCH.dueFind(ints(199), most + Bench.repeat(",9", 100) + "]", 100, 60000);
        BENCH.dueFind(ints(199), most + Bench.repeat(",9", 101) + "]", PathHouse.TIRED, 60000);
        BENCH.dueFind(ints(199), most + Bench.repeat(",9", 100) + "].x", PathHouse.TIRED, 60000);
        BENCH.dueFind(ints(200), most + "]", PathHouse.TIRED, 60000);
    }

    private static void dueCalls() {
        BENCH.sentence("An object is used for at most 512 calls after it has been made");
        PathHouse x = new PathHouse();
        int calls = 0;
        for (int round = 0; round < 64; round++) {
            BENCH.due("feed", x.feed(0x5B000000 | (0x30 + round % 10) << 16 | 0x5D20, 0, 0, 0, 0), 20);
            BENCH.due("json(3)", x.json(3), 0);
            BENCH.due("feed", x.feed(0x245B305D, 0, 0, 0, 0), 20);
            BENCH.due("query(4)", x.query(4), 0);
            BENCH.due("find()", x.find(), 1);
            BENCH.due("number(0)", x.number(0), round % 10);
            BENCH.due("path(0)", x.path(0), 4);
            BENCH.due("out(2)", x.out(2), '0');
            calls += 8;
        }
        BENCH.due("calls", calls, 512);
    }
}
