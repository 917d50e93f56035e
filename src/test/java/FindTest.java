/** Promise 6, with LOOKS of promise 12: which nodes a query selects, in which order, and at how many LOOKS. */
public final class FindTest {
    private static final String RFC = "{\"a\":[3,5,1,2,4,6,{\"b\":\"j\"},{\"b\":\"k\"},{\"b\":{}},{\"b\":\"kilo\"}],"
            + "\"o\":{\"p\":1,\"q\":2,\"r\":3,\"s\":5,\"t\":{\"u\":6}},\"e\":\"f\"}";
    private static final String TREE = "{\"o\":{\"j\":1,\"k\":2},\"a\":[5,3,[{\"j\":4},{\"k\":6}]]}";
    private static final String TEN = "[0,1,2,3,4,5,6,7,8,9]";
    private static final String KINDS = "[null,false,true,0,-1,\"\",\"a\",[],{},[null],{\"a\":null}]";

    private static Bench bench;

    public static void main(String[] args) {
        bench = new Bench();
        dueNames();
        dueIndexes();
        dueSlices();
        dueDescents();
        dueTests();
        dueComparisons();
        dueOrders();
        dueDeepEquals();
        dueFunctions();
        dueLogic();
        dueNested();
        dueRfc();
        bench.end();
    }

    private static void due(String json, String query, String paths, int looks) {
        PathHouse x = new PathHouse();
        bench.due("json of " + json, Bench.json(x, json), 0);
        bench.due("query of " + query, Bench.query(x, query), 0);
        int count = x.find();
        bench.due(query + " in " + json + ": about(5)", x.about(5), count);
        bench.due(query + " in " + json, Bench.paths(x), paths);
        bench.due(query + " in " + json + ": LOOKS", x.about(4), looks);
    }

    /** Whether the filter is true of the element 0 of an array, at so many LOOKS in all. */
    private static void dueTrue(String element, String filter, boolean want, int looks) {
        due("[" + element + "]", "$[?" + filter + "]", want ? "[0]" : "", looks);
    }

    private static void dueNames() {
        due("7", "$", "", 0);
        due("{\"a\":{\"b\":1},\"c\":2}", "$.a", "['a']", 1);
        due("{\"a\":{\"b\":1},\"c\":2}", "$.a.b", "['a']['b']", 2);
        due("{\"a\":{\"b\":1},\"c\":2}", "$.c.b", "", 2);
        due("{\"a\":{\"b\":1},\"c\":2}", "$.x.b", "", 1);
        due("{\"a\":{\"b\":1},\"c\":2}", "$['c','a','c']", "['c'] ['a'] ['c']", 3);
        due("{\"a\":{\"b\":1},\"c\":2}", "$['c','x']", "['c']", 2);
        due("{\"a\":1,\"\\u0061b\":2,\"b\":3}", "$.ab", "['ab']", 1);
        due("{\"\u00e9\":1,\"\uD83D\uDE00\":2}", "$['\\u00e9',\"\\ud83d\\ude00\"]", "['\u00e9'] ['\uD83D\uDE00']", 2);
        due("{\"\":1}", "$['']", "['']", 1);
        due("{\"a\":1,\"A\":2}", "$.A", "['A']", 1);
        due("[1]", "$['0']", "", 1);
        due("[1]", "$.a", "", 1);
        due("\"a\"", "$.a", "", 1);
        due("{\"a\":1,\"b\":[2]}", "$.*", "['a'] ['b']", 1);
        due("[1,[2]]", "$[*]", "[0] [1]", 1);
        due("[1,[2]]", "$.*.*", "[1][0]", 3);
        due("\"abc\"", "$.*", "", 1);
        due("[]", "$[*]", "", 1);
        due("[1,2]", "$[*,*]", "[0] [1] [0] [1]", 2);
        due("[[1,2],[3,4]]", "$[*][1,0]", "[0][1] [0][0] [1][1] [1][0]", 5);
        due("{\"b\":1,\"a\":2}", "$.*", "['b'] ['a']", 1);
    }

    private static void dueIndexes() {
        due(TEN, "$[0]", "[0]", 1);
        due(TEN, "$[9]", "[9]", 1);
        due(TEN, "$[10]", "", 1);
        due(TEN, "$[-1]", "[9]", 1);
        due(TEN, "$[-10]", "[0]", 1);
        due(TEN, "$[-11]", "", 1);
        due(TEN, "$[9007199254740991]", "", 1);
        due(TEN, "$[-9007199254740991]", "", 1);
        due(TEN, "$[4294967296]", "", 1);
        due(TEN, "$[-4294967295]", "", 1);
        due("{\"0\":1}", "$[0]", "", 1);
        due("\"abc\"", "$[0]", "", 1);
        due("[]", "$[0,-1]", "", 2);
    }

    private static void dueSlices() {
        dueSlice("1:3", 1, 2);
        dueSlice("5:", 5, 6, 7, 8, 9);
        dueSlice(":3", 0, 1, 2);
        dueSlice("1:8:3", 1, 4, 7);
        dueSlice("8:1:-3", 8, 5, 2);
        dueSlice("5:1:-2", 5, 3);
        dueSlice("::-1", 9, 8, 7, 6, 5, 4, 3, 2, 1, 0);
        dueSlice("::", 0, 1, 2, 3, 4, 5, 6, 7, 8, 9);
        dueSlice("::4", 0, 4, 8);
        dueSlice("::-4", 9, 5, 1);
        dueSlice("::0");
        dueSlice("1:5:0");
        dueSlice("-3:", 7, 8, 9);
        dueSlice(":-7", 0, 1, 2);
        dueSlice("-3:-1", 7, 8);
        dueSlice("-100:2", 0, 1);
        dueSlice("8:100", 8, 9);
        dueSlice("10:");
        dueSlice("5:5");
        dueSlice("5:4");
        dueSlice("3::-1", 3, 2, 1, 0);
        dueSlice(":6:-1", 9, 8, 7);
        dueSlice("100:7:-1", 9, 8);
        dueSlice("2:-100:-1", 2, 1, 0);
        dueSlice("2:-11:-1", 2, 1, 0);
        dueSlice("2:-10:-1", 2, 1);
        dueSlice("-100::-1");
        dueSlice("-2:-5:-1", 8, 7, 6);
        dueSlice("1:3:-1");
        dueSlice("0::9007199254740991", 0);
        dueSlice("::-9007199254740991", 9);
        dueSlice("-9007199254740991:9007199254740991:5", 0, 5);
        dueSlice("9007199254740991:-9007199254740991:-5", 9, 4);
        dueSlice("0:0:-1");
        dueSlice("0:1", 0);
        dueSlice("0:0");
        dueSlice(":0");
        dueSlice(":-10");
        dueSlice(":-11");
        dueSlice(":-9", 0);
        dueSlice("9:9:-1");
        dueSlice("9:100:-1");
        dueSlice("9:8:-1", 9);
        due("[]", "$[::-1,:]", "", 2);
        due("{\"a\":1}", "$[:]", "", 1);
        due("\"abc\"", "$[0:2]", "", 1);
        due("[7]", "$[::-1,0:1:1]", "[0] [0]", 2);
        due("[1,2,3]", "$[ 0 : 2 : 1 , 2 ]", "[0] [1] [2]", 2);
    }

    private static void dueSlice(String slice, int... places) {
        StringBuilder paths = new StringBuilder();
        for (int place : places) {
            paths.append(paths.length() == 0 ? "[" : " [").append(place).append(']');
        }
        due(TEN, "$[" + slice + "]", paths.toString(), 1);
    }

    private static void dueDescents() {
        due(TREE, "$..j", "['o']['j'] ['a'][2][0]['j']", 24);
        due(TREE, "$..[0]", "['a'][0] ['a'][2][0]", 24);
        due(TREE, "$..*", "['o'] ['a'] ['o']['j'] ['o']['k'] ['a'][0] ['a'][1] ['a'][2] ['a'][2][0] ['a'][2][1]"
                + " ['a'][2][0]['j'] ['a'][2][1]['k']", 24);
        due(TREE, "$..o", "['o']", 24);
        due(TREE, "$.o..[*,*]", "['o']['j'] ['o']['k'] ['o']['j'] ['o']['k']", 10);
        due(TREE, "$.a..[0,1]", "['a'][0] ['a'][1] ['a'][2][0] ['a'][2][1]", 25);
        due("7", "$..*", "", 2);
        due("7", "$..[*,0,'a']", "", 4);
        due("[[1]]", "$..*..*", "[0][0]", 12);
        due("[[1],[2]]", "$..[0]..[0]", "[0][0]", 18);
        due("[[[1]]]", "$..[0]..[0]", "[0][0] [0][0][0] [0][0][0]", 20);
    }

    private static void dueTests() {
        due("[{\"a\":1},{\"b\":1},[1],\"a\"]", "$[?@.a]", "[0]", 9);
        due("[{\"a\":1},{\"b\":1},[1],\"a\"]", "$[?!@.a]", "[1] [2] [3]", 9);
        due("{\"x\":{\"a\":1},\"y\":{\"b\":1}}", "$[?@.a]", "['x']", 5);
        due("[1,[],[0],{},{\"a\":null}]", "$[?@.*]", "[2] [4]", 11);
        due("[1,2]", "$[?@]", "[0] [1]", 3);
        due("[1,2]", "$[?$[5]]", "", 5);
        due("[1,2]", "$[?$[1]]", "[0] [1]", 5);
        due("[1,2]", "$[?@,?@]", "[0] [1] [0] [1]", 6);
        due("7", "$[?@]", "", 1);
        due("\"abc\"", "$[?@]", "", 1);
        due("[[1],[[2]]]", "$..[?@[0]]", "[0] [1] [1][0]", 22);
        due("[false,null,0]", "$[?@]", "[0] [1] [2]", 4);
        due("{\"a\":null}", "$[?$.a]", "['a']", 3);
    }

    private static void dueComparisons() {
        due("[1,2,3,\"1\",null,true]", "$[?@==1]", "[0]", 13);
        due("[1,2,3,\"1\",null,true]", "$[?@!=1]", "[1] [2] [3] [4] [5]", 13);
        due("[1,2,3,\"2\",null,true]", "$[?@<2]", "[0]", 7);
        due("[1,2,3,\"2\",null,true]", "$[?@<=2]", "[0] [1]", 12);
        due("[1,2,3,\"2\",null,true]", "$[?@>2]", "[2]", 7);
        due("[1,2,3,\"2\",null,true]", "$[?@>=2]", "[1] [2]", 12);
        due("[1,2,3]", "$[?2<@]", "[2]", 4);
        due("[-0,0]", "$[?@==-0]", "[0] [1]", 5);
        due(KINDS, "$[?@==null]", "[0]", 23);
        due(KINDS, "$[?@==false]", "[1]", 23);
        due(KINDS, "$[?@==true]", "[2]", 23);
        due(KINDS, "$[?@==0]", "[3]", 23);
        due(KINDS, "$[?@=='']", "[5]", 23);
        due(KINDS, "$[?@=='a']", "[6]", 23);
        due(KINDS, "$[?@<null]", "", 12);
        due(KINDS, "$[?@<=null]", "[0]", 23);
        due(KINDS, "$[?@>=true]", "[2]", 23);
        due(KINDS, "$[?@<'a']", "[5]", 12);
        due(KINDS, "$[?@>'']", "[6]", 12);
        due(KINDS, "$[?@<0]", "[4]", 12);
        due(KINDS, "$[?@.a==null]", "[10]", 24);
        due(KINDS, "$[?@[0]==@.x]", "[0] [1] [2] [3] [4] [5] [6] [7] [8] [10]", 34);
        due(KINDS, "$[?@[0]!=@.x]", "[9]", 34);
        due(KINDS, "$[?@[0]<=@.x]", "[0] [1] [2] [3] [4] [5] [6] [7] [8] [10]", 34);
        due(KINDS, "$[?@[0]<@.x]", "", 34);
        due(KINDS, "$[?@[0]>=@.x]", "[0] [1] [2] [3] [4] [5] [6] [7] [8] [10]", 34);
        due(KINDS, "$[?@.x==null]", "", 23);
        due(KINDS, "$[?null==@.x]", "", 23);
        due("[9007199254740991,9007199254740990,-9007199254740991]", "$[?@==9007199254740991]", "[0]", 7);
        due("[9007199254740991,9007199254740990,-9007199254740991]", "$[?@<9007199254740990]", "[2]", 4);
    }

    private static void dueOrders() {
        dueTrue("\"a\"", "@<'b'", true, 2);
        dueTrue("\"b\"", "@<'a'", false, 2);
        dueTrue("\"a\"", "@<'a'", false, 2);
        dueTrue("\"a\"", "@<='a'", true, 3);
        dueTrue("\"a\"", "@>='a'", true, 3);
        dueTrue("\"a\"", "@<'ab'", true, 2);
        dueTrue("\"ab\"", "@<'a'", false, 2);
        dueTrue("\"ab\"", "@>'a'", true, 2);
        dueTrue("\"ab\"", "@<'b'", true, 2);
        dueTrue("\"\"", "@<'a'", true, 2);
        dueTrue("\"\uFFFF\"", "@<'\uD83D\uDE00'", true, 2);
        dueTrue("\"\uD83D\uDE00\"", "@<'\uFFFF'", false, 2);
        dueTrue("\"Z\"", "@<'a'", true, 2);
        dueTrue("\"\u00e9\"", "@=='\\u00e9'", true, 3);
        dueTrue("\"10\"", "@<'9'", true, 2);
        dueTrue("10", "@<9", false, 2);
        dueTrue("1", "@<'2'", false, 2);
        dueTrue("1", "@<='1'", false, 3);
        dueTrue("[]", "@<@", false, 2);
        dueTrue("[1]", "@<=@", true, 4);
        dueTrue("{\"a\":[1]}", "@>=@", true, 5);
        dueTrue("true", "@>false", false, 2);
        dueTrue("true", "@>=false", false, 3);
    }

    private static void dueDeepEquals() {
        due("{\"b\":{\"c\":[]},\"a\":{\"c\":[]}}", "$[?@==$.a]", "['b'] ['a']", 9);
        due("[[1,2],[1,2],[2,1],[1],[1,2,3]]", "$[?@==$[0]]", "[0] [1]", 1 + 5 * 3 + 5);
        due("[{\"a\":1,\"b\":2},{\"b\":2,\"a\":1},{\"a\":1},{\"a\":1,\"c\":2},{\"a\":1,\"b\":3}]", "$[?@==$[0]]", "[0] [1]",
                1 + 5 + 5 + 3 + 4 + 5);
        due("[{\"a\":1,\"b\":2},{\"c\":1,\"b\":2}]", "$[?$[0]==@]", "[0]", 1 + 5 + 3);
        due("[{\"a\":1,\"b\":2},{\"b\":9,\"a\":1}]", "$[?@==$[0]]", "[0]", 1 + 5 + 4);
        due("[{\"a\":1,\"b\":2},{\"b\":9,\"a\":1}]", "$[?$[0]==@]", "[0]", 1 + 5 + 5);
        due("[{\"a\":1,\"b\":2},{\"b\":9,\"a\":1}]", "$[?@<=$[0]]", "[0]", 1 + 5 + 4);
        due("[{\"a\":1,\"b\":2},{\"b\":9,\"a\":1}]", "$[?@>=$[0]]", "[0]", 1 + 5 + 5);
        due("[{\"a\":1,\"b\":2},{\"b\":9,\"a\":1}]", "$[?@!=$[0]]", "[1]", 1 + 5 + 4);
        due("[[],{}]", "$[?@==$[1]]", "[1]", 1 + 3 + 3);
        due("[[[1,[2]],{\"a\":[3]}],[[1,[2]],{\"a\":[3]}],[[1,[3]],{\"a\":[3]}]]", "$[?@==$[0]]", "[0] [1]",
                1 + 2 * (2 + 8) + 2 + 5);
        due("[\"ab\",\"abc\",\"ab\"]", "$[?@==$[0]]", "[0] [2]", 10);
        String deep = Bench.repeat("[", 30) + Bench.repeat("]", 30);
        due(deep, "$[?$==$]", "[0]", 1 + 1 + 30);
        due(deep, "$[?$<=@]", "", 1 + 1 + 29);
        due("[" + deep.substring(1, 59) + "," + deep.substring(1, 59) + "]", "$[?$[1]==@]", "[0] [1]", 1 + 2 * (2 + 29));
        due("[[null],[false],[true],[0],[\"\"]]", "$[?@==$[1]]", "[1]", 1 + 5 * 4);
    }

    private static void dueFunctions() {
        due("[\"abc\",\"\",\"\\u00e9\\ud83d\\ude00x\",[1,2,3],{\"a\":1,\"b\":2,\"c\":3},3,null,true]", "$[?length(@)==3]",
                "[0] [2] [3] [4]", 1 + 5 * 2 + 3);
        due("[\"abc\",\"\",[],{},3,null,true]", "$[?length(@)==0]", "[1] [2] [3]", 1 + 4 * 2 + 3);
        due("[\"abc\",{\"a\":[1]},3]", "$[?length(@.a)==1]", "[1]", 1 + 2 + 3 + 2);
        due("[\"abc\",{\"a\":[1]},3]", "$[?length(@.a)==length(@.x)]", "[0] [2]", 1 + 3 + 3 + 3);
        dueTrue("1", "length('abcd')==4", true, 3);
        dueTrue("1", "length(\"\\u0041\\n\")==2", true, 3);
        dueTrue("1", "length(7)==length(null)", true, 2);
        dueTrue("1", "length(length('a'))==1", false, 2);
        dueTrue("1", "length(count($.*))==1", false, 3);
        dueTrue("[1,2]", "length(value(@))==2", true, 3);
        dueTrue("[1,2]", "count(@)==1", true, 3);
        dueTrue("[1,2]", "count(@.*)==2", true, 4);
        dueTrue("[1,2]", "count(@[0,0,0])==3", true, 6);
        dueTrue("[1,2]", "count(@.x)==0", true, 4);
        dueTrue("[1,2]", "count($..*)==3", true, 1 + 1 + 8 + 1);
        dueTrue("[1,2]", "value(@[0])==1", true, 4);
        dueTrue("[1,2]", "value(@.*)==1", false, 3);
        dueTrue("[1,2]", "value(@.*)==@.x", true, 4);
        dueTrue("[1,2]", "value(@.x)==@.x", true, 4);
        dueTrue("{\"a\":{\"b\":5}}", "value(@..b)==5", true, 1 + 1 + 6 + 1);
        dueTrue("[[1]]", "value(@[0])==$[0][0]", true, 1 + 1 + 1 + 2 + 2);
        dueTrue("[1,2,3]", "count(@.*)>count(@[:2])", true, 4);
        dueTrue("[1,2,3]", "count(@.*)<=count(@[:2])", false, 5);
        dueTrue("[\"ab\",\"c\"]", "length(@[0])>length(@[1])", true, 4);
        dueTrue("[1,2]", "count(@[?@>1])==1", true, 1 + 1 + 3 + 1);
    }

    // What stands behind a told && or || is not asked, and costs nothing.
    private static void dueLogic() {
        dueTrue("1", "@==1||@==2", true, 3);
        dueTrue("2", "@==1||@==2", true, 4);
        dueTrue("3", "@==1||@==2", false, 4);
        dueTrue("1", "@==1&&@==2", false, 4);
        dueTrue("2", "@==1&&@==2", false, 3);
        dueTrue("1", "@==1&&@==1", true, 4);
        dueTrue("1", "@==1||@==1&&@==2", true, 3);
        dueTrue("2", "@==1&&@==2||@==2", true, 4);
        dueTrue("2", "@==1&&(@==2||@==2)", false, 3);
        dueTrue("2", "(@==1||@==2)&&@==3", false, 5);
        dueTrue("1", "!(@==1)", false, 3);
        dueTrue("1", "!(@==2)", true, 3);
        dueTrue("1", "!(!(@==1))", true, 3);
        dueTrue("1", "!(@==2||@==1)", false, 4);
        dueTrue("1", "!(@==2&&@==1)", true, 3);
        dueTrue("1", "!@.a&&!@.b", true, 4);
        dueTrue("1", "!@&&@", false, 2);
        dueTrue("1", "((@))", true, 2);
        dueTrue("1", "@.a||@.b||@", true, 4);
        dueTrue("1", "@&&@.a&&@.b", false, 3);
        dueTrue("1", "@.a&&@||@", true, 3);
        dueTrue("1", "!(@.a)&&@", true, 3);
        dueTrue("1", "(((@.a)||@))&&(@)", true, 3);
    }

    private static void dueNested() {
        due("[[1,2],[3]]", "$[?@[?@>2]]", "[1]", 1 + 1 + 1 + 2 + 1 + 1 + 1);
        due("[[1,2],[3]]", "$[?@[?@==$[1][0]]]", "[1]", 1 + (1 + 1 + 2 * 4) + (1 + 1 + 4));
        due("[[[5]],[[6]]]", "$[?@[?@[?@==6]]]", "[1]", 1 + 2 * (1 + 1 + 1 + 1 + 1 + 1));
        due("{\"a\":[{\"x\":1},{\"x\":2}],\"m\":2}", "$.a[?@.x==$.m]", "['a'][1]", 1 + 1 + 2 * 4);
        due("[1,[2,[3]]]", "$..[?@[?@]]", "[1] [1][1]", 12 + 6 + 5 + 2);
        due("[1]", "$" + Bench.repeat("[?$", 16) + Bench.repeat("]", 16), "[0]", 32);
        due("[[1]]", "$[?count(@[?count(@[?@])==0])==1]", "[0]", 1 + 1 + 1 + 1 + 1 + 1 + 1);
    }

    // The examples of RFC 9535, 2.3.5.3, that need no match() or search(). ( ) costs no LOOK of its own.
    private static void dueRfc() {
        due(RFC, "$.a[?@.b == 'kilo']", "['a'][9]", 26);
        due(RFC, "$.a[?(@.b == 'kilo')]", "['a'][9]", 26);
        due(RFC, "$.a[?@>3]", "['a'][1] ['a'][4] ['a'][5]", 12);
        due(RFC, "$.a[?@.b]", "['a'][6] ['a'][7] ['a'][8] ['a'][9]", 22);
        due(RFC, "$[?@.*]", "['a'] ['o']", 7);
        due(RFC, "$[?@[?@.b]]", "['a']", 37);
        due(RFC, "$.o[?@<3, ?@<3]", "['o']['p'] ['o']['q'] ['o']['p'] ['o']['q']", 13);
        due(RFC, "$.a[?@<2 || @.b == \"k\"]", "['a'][2] ['a'][7]", 25);
        due(RFC, "$.o[?@>1 && @<4]", "['o']['q'] ['o']['r']", 7);
        due(RFC, "$.o[?@.u || @.x]", "['o']['t']", 16);
        due(RFC, "$.a[?@.b == $.x]", "['a'][0] ['a'][1] ['a'][2] ['a'][3] ['a'][4] ['a'][5]", 32);
        due(RFC, "$.a[?@ == @]", "['a'][0] ['a'][1] ['a'][2] ['a'][3] ['a'][4] ['a'][5] ['a'][6] ['a'][7] ['a'][8] ['a'][9]", 26);
    }
}
