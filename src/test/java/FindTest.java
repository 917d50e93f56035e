/** Promise 6, with LOOKS of promise 12: which nodes a query selects, in which order, and at how many LOOKS. */
public final class FindTest {
    private static final String RFC = "{\"a\":[3,5,1,2,4,6,{\"b\":\"j\"},{\"b\":\"k\"},{\"b\":{}},{\"b\":\"kilo\"}],"
            + "\"o\":{\"p\":1,\"q\":2,\"r\":3,\"s\":5,\"t\":{\"u\":6}},\"e\":\"f\"}";
    private static final String TREE = "{\"o\":{\"j\":1,\"k\":2},\"a\":[5,3,[{\"j\":4},{\"k\":6}]]}";
    private static final String TEN = "[0,1,2,3,4,5,6,7,8,9]";
    private static final String KINDS = "[null,false,true,0,-1,\"\",\"a\",[],{},[null],{\"a\":null}]";

    private static Bench bench;

    public static void main(String[] args) {
        bench = new Bench();
        dueNames();
        dueIndexes();
        dueSlices();
        dueDescents();
        dueTests();
        dueComparisons();
        dueOrders();
        dueDeepEquals();
        dueFunctions();
        dueLogic();
        dueNested();
        dueRfc();
        bench.end();
    }

    private static void dueNames() {
        bench.dueFound("7", "$", "", 0);
        bench.dueFound("{\"a\":{\"b\":1},\"c\":2}", "$.a", "['a']", 1);
        bench.dueFound("{\"a\":{\"b\":1},\"c\":2}", "$.a.b", "['a']['b']", 2);
        bench.dueFound("{\"a\":{\"b\":1},\"c\":2}", "$.c.b", "", 2);
        bench.dueFound("{\"a\":{\"b\":1},\"c\":2}", "$.x.b", "", 1);
        bench.dueFound("{\"a\":{\"b\":1},\"c\":2}", "$['c','a','c']", "['c'] ['a'] ['c']", 3);
        bench.dueFound("{\"a\":{\"b\":1},\"c\":2}", "$['c','x']", "['c']", 2);
        bench.dueFound("{\"a\":1,\"\\u0061b\":2,\"b\":3}", "$.ab", "['ab']", 1);
        bench.dueFound("{\"\u00e9\":1,\"\uD83D\uDE00\":2}", "$['\\u00e9',\"\\ud83d\\ude00\"]", "['\u00e9'] ['\uD83D\uDE00']", 2);
        bench.dueFound("{\"\":1}", "$['']", "['']", 1);
        bench.dueFound("{\"a\":1,\"A\":2}", "$.A", "['A']", 1);
        bench.dueFound("[1]", "$['0']", "", 1);
        bench.dueFound("[1]", "$.a", "", 1);
        bench.dueFound("\"a\"", "$.a", "", 1);
        bench.dueFound("{\"a\":1,\"b\":[2]}", "$.*", "['a'] ['b']", 1);
        bench.dueFound("[1,[2]]", "$[*]", "[0] [1]", 1);
        bench.dueFound("[1,[2]]", "$.*.*", "[1][0]", 3);
        bench.dueFound("\"abc\"", "$.*", "", 1);
        bench.dueFound("[]", "$[*]", "", 1);
        bench.dueFound("[1,2]", "$[*,*]", "[0] [1] [0] [1]", 2);
        bench.dueFound("[[1,2],[3,4]]", "$[*][1,0]", "[0][1] [0][0] [1][1] [1][0]", 5);
        bench.dueFound("{\"b\":1,\"a\":2}", "$.*", "['b'] ['a']", 1);
    }

    private static void dueIndexes() {
        bench.dueFound(TEN, "$[0]", "[0]", 1);
        bench.dueFound(TEN, "$[9]", "[9]", 1);
        bench.dueFound(TEN, "$[10]", "", 1);
        bench.dueFound(TEN, "$[-1]", "[9]", 1);
        bench.dueFound(TEN, "$[-10]", "[0]", 1);
        bench.dueFound(TEN, "$[-11]", "", 1);
        bench.dueFound(TEN, "$[9007199254740991]", "", 1);
        bench.dueFound(TEN, "$[-9007199254740991]", "", 1);
        bench.dueFound(TEN, "$[4294967296]", "", 1);
        bench.dueFound(TEN, "$[-4294967295]", "", 1);
        bench.dueFound("{\"0\":1}", "$[0]", "", 1);
        bench.dueFound("\"abc\"", "$[0]", "", 1);
        bench.dueFound("[]", "$[0,-1]", "", 2);
    }

    private static void dueSlices() {
        dueSlice("1:3", 1, 2);
        dueSlice("5:", 5, 6, 7, 8, 9);
        dueSlice(":3", 0, 1, 2);
        dueSlice("1:8:3", 1, 4, 7);
        dueSlice("8:1:-3", 8, 5, 2);
        dueSlice("5:1:-2", 5, 3);
        dueSlice("::-1", 9, 8, 7, 6, 5, 4, 3, 2, 1, 0);
        dueSlice("::", 0, 1, 2, 3, 4, 5, 6, 7, 8, 9);
        dueSlice("::4", 0, 4, 8);
        dueSlice("::-4", 9, 5, 1);
        dueSlice("::0");
        dueSlice("1:5:0");
        dueSlice("-3:", 7, 8, 9);
        dueSlice(":-7", 0, 1, 2);
        dueSlice("-3:-1", 7, 8);
        dueSlice("-100:2", 0, 1);
        dueSlice("8:100", 8, 9);
        dueSlice("10:");
        dueSlice("5:5");
        dueSlice("5:4");
        dueSlice("3::-1", 3, 2, 1, 0);
        dueSlice(":6:-1", 9, 8, 7);
        dueSlice("100:7:-1", 9, 8);
        dueSlice("2:-100:-1", 2, 1, 0);
        dueSlice("2:-11:-1", 2, 1, 0);
        dueSlice("2:-10:-1", 2, 1);
        dueSlice("-100::-1");
        dueSlice("-2:-5:-1", 8, 7, 6);
        dueSlice("1:3:-1");
        dueSlice("0::9007199254740991", 0);
        dueSlice("::-9007199254740991", 9);
        dueSlice("-9007199254740991:9007199254740991:5", 0, 5);
        dueSlice("9007199254740991:-9007199254740991:-5", 9, 4);
        dueSlice("0:0:-1");
        dueSlice("0:1", 0);
        dueSlice("0:0");
        dueSlice(":0");
        dueSlice(":-10");
        dueSlice(":-11");
        dueSlice(":-9", 0);
        dueSlice("9:9:-1");
        dueSlice("9:100:-1");
        dueSlice("9:8:-1", 9);
        bench.dueFound("[]", "$[::-1,:]", "", 2);
        bench.dueFound("{\"a\":1}", "$[:]", "", 1);
        bench.dueFound("\"abc\"", "$[0:2]", "", 1);
        bench.dueFound("[7]", "$[::-1,0:1:1]", "[0] [0]", 2);
        bench.dueFound("[1,2,3]", "$[ 0 : 2 : 1 , 2 ]", "[0] [1] [2]", 2);
    }

    private static void dueSlice(String slice, int... places) {
        StringBuilder paths = new StringBuilder();
        for (int place : places) {
            paths.append(paths.length() == 0 ? "[" : " [").append(place).append(']');
        }
        bench.dueFound(TEN, "$[" + slice + "]", paths.toString(), 1);
    }

    private static void dueDescents() {
        bench.dueFound(TREE, "$..j", "['o']['j'] ['a'][2][0]['j']", 24);
        bench.dueFound(TREE, "$..[0]", "['a'][0] ['a'][2][0]", 24);
        bench.dueFound(TREE, "$..*", "['o'] ['a'] ['o']['j'] ['o']['k'] ['a'][0] ['a'][1] ['a'][2] ['a'][2][0] ['a'][2][1]"
                + " ['a'][2][0]['j'] ['a'][2][1]['k']", 24);
        bench.dueFound(TREE, "$..o", "['o']", 24);
        bench.dueFound(TREE, "$.o..[*,*]", "['o']['j'] ['o']['k'] ['o']['j'] ['o']['k']", 10);
        bench.dueFound(TREE, "$.a..[0,1]", "['a'][0] ['a'][1] ['a'][2][0] ['a'][2][1]", 25);
        bench.dueFound("7", "$..*", "", 2);
        bench.dueFound("7", "$..[*,0,'a']", "", 4);
        bench.dueFound("[[1]]", "$..*..*", "[0][0]", 12);
        bench.dueFound("[[1],[2]]", "$..[0]..[0]", "[0][0]", 18);
        bench.dueFound("[[[1]]]", "$..[0]..[0]", "[0][0] [0][0][0] [0][0][0]", 20);
    }

    private static void dueTests() {
        bench.dueFound("[{\"a\":1},{\"b\":1},[1],\"a\"]", "$[?@.a]", "[0]", 9);
        bench.dueFound("[{\"a\":1},{\"b\":1},[1],\"a\"]", "$[?!@.a]", "[1] [2] [3]", 9);
        bench.dueFound("{\"x\":{\"a\":1},\"y\":{\"b\":1}}", "$[?@.a]", "['x']", 5);
        bench.dueFound("[1,[],[0],{},{\"a\":null}]", "$[?@.*]", "[2] [4]", 11);
        bench.dueFound("[1,2]", "$[?@]", "[0] [1]", 3);
        bench.dueFound("[1,2]", "$[?$[5]]", "", 5);
        bench.dueFound("[1,2]", "$[?$[1]]", "[0] [1]", 5);
        bench.dueFound("[1,2]", "$[?@,?@]", "[0] [1] [0] [1]", 6);
        bench.dueFound("7", "$[?@]", "", 1);
        bench.dueFound("\"abc\"", "$[?@]", "", 1);
        bench.dueFound("[[1],[[2]]]", "$..[?@[0]]", "[0] [1] [1][0]", 22);
        bench.dueFound("[false,null,0]", "$[?@]", "[0] [1] [2]", 4);
        bench.dueFound("{\"a\":null}", "$[?$.a]", "['a']", 3);
    }

    private static void dueComparisons() {
        bench.dueFound("[1,2,3,\"1\",null,true]", "$[?@==1]", "[0]", 13);
        bench.dueFound("[1,2,3,\"1\",null,true]", "$[?@!=1]", "[1] [2] [3] [4] [5]", 13);
        bench.dueFound("[1,2,3,\"2\",null,true]", "$[?@<2]", "[0]", 7);
        bench.dueFound("[1,2,3,\"2\",null,true]", "$[?@<=2]", "[0] [1]", 12);
        bench.dueFound("[1,2,3,\"2\",null,true]", "$[?@>2]", "[2]", 7);
        bench.dueFound("[1,2,3,\"2\",null,true]", "$[?@>=2]", "[1] [2]", 12);
        bench.dueFound("[1,2,3]", "$[?2<@]", "[2]", 4);
        bench.dueFound("[-0,0]", "$[?@==-0]", "[0] [1]", 5);
        bench.dueFound(KINDS, "$[?@==null]", "[0]", 23);
        bench.dueFound(KINDS, "$[?@==false]", "[1]", 23);
        bench.dueFound(KINDS, "$[?@==true]", "[2]", 23);
        bench.dueFound(KINDS, "$[?@==0]", "[3]", 23);
        bench.dueFound(KINDS, "$[?@=='']", "[5]", 23);
        bench.dueFound(KINDS, "$[?@=='a']", "[6]", 23);
        bench.dueFound(KINDS, "$[?@<null]", "", 12);
        bench.dueFound(KINDS, "$[?@<=null]", "[0]", 23);
        bench.dueFound(KINDS, "$[?@>=true]", "[2]", 23);
        bench.dueFound(KINDS, "$[?@<'a']", "[5]", 12);
        bench.dueFound(KINDS, "$[?@>'']", "[6]", 12);
        bench.dueFound(KINDS, "$[?@<0]", "[4]", 12);
        bench.dueFound(KINDS, "$[?@.a==null]", "[10]", 24);
        bench.dueFound(KINDS, "$[?@[0]==@.x]", "[0] [1] [2] [3] [4] [5] [6] [7] [8] [10]", 34);
        bench.dueFound(KINDS, "$[?@[0]!=@.x]", "[9]", 34);
        bench.dueFound(KINDS, "$[?@[0]<=@.x]", "[0] [1] [2] [3] [4] [5] [6] [7] [8] [10]", 34);
        bench.dueFound(KINDS, "$[?@[0]<@.x]", "", 34);
        bench.dueFound(KINDS, "$[?@[0]>=@.x]", "[0] [1] [2] [3] [4] [5] [6] [7] [8] [10]", 34);
        bench.dueFound(KINDS, "$[?@.x==null]", "", 23);
        bench.dueFound(KINDS, "$[?null==@.x]", "", 23);
        bench.dueFound("[9007199254740991,9007199254740990,-9007199254740991]", "$[?@==9007199254740991]", "[0]", 7);
        bench.dueFound("[9007199254740991,9007199254740990,-9007199254740991]", "$[?@<9007199254740990]", "[2]", 4);
    }

    private static void dueOrders() {
        bench.dueTrue("\"a\"", "@<'b'", true, 2);
        bench.dueTrue("\"b\"", "@<'a'", false, 2);
        bench.dueTrue("\"a\"", "@<'a'", false, 2);
        bench.dueTrue("\"a\"", "@<='a'", true, 3);
        bench.dueTrue("\"a\"", "@>='a'", true, 3);
        bench.dueTrue("\"a\"", "@<'ab'", true, 2);
        bench.dueTrue("\"ab\"", "@<'a'", false, 2);
        bench.dueTrue("\"ab\"", "@>'a'", true, 2);
        bench.dueTrue("\"ab\"", "@<'b'", true, 2);
        bench.dueTrue("\"\"", "@<'a'", true, 2);
        bench.dueTrue("\"\uFFFF\"", "@<'\uD83D\uDE00'", true, 2);
        bench.dueTrue("\"\uD83D\uDE00\"", "@<'\uFFFF'", false, 2);
        bench.dueTrue("\"Z\"", "@<'a'", true, 2);
        bench.dueTrue("\"\u00e9\"", "@=='\\u00e9'", true, 3);
        bench.dueTrue("\"10\"", "@<'9'", true, 2);
        bench.dueTrue("10", "@<9", false, 2);
        bench.dueTrue("1", "@<'2'", false, 2);
        bench.dueTrue("1", "@<='1'", false, 3);
        bench.dueTrue("[]", "@<@", false, 2);
        bench.dueTrue("[1]", "@<=@", true, 4);
        bench.dueTrue("{\"a\":[1]}", "@>=@", true, 5);
        bench.dueTrue("true", "@>false", false, 2);
        bench.dueTrue("true", "@>=false", false, 3);
    }

    private static void dueDeepEquals() {
        bench.dueFound("{\"b\":{\"c\":[]},\"a\":{\"c\":[]}}", "$[?@==$.a]", "['b'] ['a']", 9);
        bench.dueFound("[[1,2],[1,2],[2,1],[1],[1,2,3]]", "$[?@==$[0]]", "[0] [1]", 1 + 5 * 3 + 5);
        bench.dueFound("[{\"a\":1,\"b\":2},{\"b\":2,\"a\":1},{\"a\":1},{\"a\":1,\"c\":2},{\"a\":1,\"b\":3}]", "$[?@==$[0]]", "[0] [1]",
                1 + 5 + 5 + 3 + 4 + 5);
        bench.dueFound("[{\"a\":1,\"b\":2},{\"c\":1,\"b\":2}]", "$[?$[0]==@]", "[0]", 1 + 5 + 3);
        bench.dueFound("[{\"a\":1,\"b\":2},{\"b\":9,\"a\":1}]", "$[?@==$[0]]", "[0]", 1 + 5 + 4);
        bench.dueFound("[{\"a\":1,\"b\":2},{\"b\":9,\"a\":1}]", "$[?$[0]==@]", "[0]", 1 + 5 + 5);
        bench.dueFound("[{\"a\":1,\"b\":2},{\"b\":9,\"a\":1}]", "$[?@<=$[0]]", "[0]", 1 + 5 + 4);
        bench.dueFound("[{\"a\":1,\"b\":2},{\"b\":9,\"a\":1}]", "$[?@>=$[0]]", "[0]", 1 + 5 + 5);
        bench.dueFound("[{\"a\":1,\"b\":2},{\"b\":9,\"a\":1}]", "$[?@!=$[0]]", "[1]", 1 + 5 + 4);
        bench.dueFound("[[],{}]", "$[?@==$[1]]", "[1]", 1 + 3 + 3);
        bench.dueFound("[[[1,[2]],{\"a\":[3]}],[[1,[2]],{\"a\":[3]}],[[1,[3]],{\"a\":[3]}]]", "$[?@==$[0]]", "[0] [1]",
                1 + 2 * (2 + 8) + 2 + 5);
        bench.dueFound("[\"ab\",\"abc\",\"ab\"]", "$[?@==$[0]]", "[0] [2]", 10);
        String deep = Bench.repeat("[", 30) + Bench.repeat("]", 30);
        bench.dueFound(deep, "$[?$==$]", "[0]", 1 + 1 + 30);
        bench.dueFound(deep, "$[?$<=@]", "", 1 + 1 + 29);
        bench.dueFound("[" + deep.substring(1, 59) + "," + deep.substring(1, 59) + "]", "$[?$[1]==@]", "[0] [1]", 1 + 2 * (2 + 29));
        bench.dueFound("[[null],[false],[true],[0],[\"\"]]", "$[?@==$[1]]", "[1]", 1 + 5 * 4);
    }

    private static void dueFunctions() {
        bench.dueFound("[\"abc\",\"\",\"\\u00e9\\ud83d\\ude00x\",[1,2,3],{\"a\":1,\"b\":2,\"c\":3},3,null,true]", "$[?length(@)==3]",
                "[0] [2] [3] [4]", 1 + 5 * 2 + 3);
        bench.dueFound("[\"abc\",\"\",[],{},3,null,true]", "$[?length(@)==0]", "[1] [2] [3]", 1 + 4 * 2 + 3);
        bench.dueFound("[\"abc\",{\"a\":[1]},3]", "$[?length(@.a)==1]", "[1]", 1 + 2 + 3 + 2);
        bench.dueFound("[\"abc\",{\"a\":[1]},3]", "$[?length(@.a)==length(@.x)]", "[0] [2]", 1 + 3 + 3 + 3);
        bench.dueTrue("1", "length('abcd')==4", true, 3);
        bench.dueTrue("1", "length(\"\\u0041\\n\")==2", true, 3);
        bench.dueTrue("1", "length(7)==length(null)", true, 2);
        bench.dueTrue("1", "length(length('a'))==1", false, 2);
        bench.dueTrue("1", "length(count($.*))==1", false, 3);
        bench.dueTrue("[1,2]", "length(value(@))==2", true, 3);
        bench.dueTrue("[1,2]", "count(@)==1", true, 3);
        bench.dueTrue("[1,2]", "count(@.*)==2", true, 4);
        bench.dueTrue("[1,2]", "count(@[0,0,0])==3", true, 6);
        bench.dueTrue("[1,2]", "count(@.x)==0", true, 4);
        bench.dueTrue("[1,2]", "count($..*)==3", true, 1 + 1 + 8 + 1);
        bench.dueTrue("[1,2]", "value(@[0])==1", true, 4);
        bench.dueTrue("[1,2]", "value(@.*)==1", false, 3);
        bench.dueTrue("[1,2]", "value(@.*)==@.x", true, 4);
        bench.dueTrue("[1,2]", "value(@.x)==@.x", true, 4);
        bench.dueTrue("{\"a\":{\"b\":5}}", "value(@..b)==5", true, 1 + 1 + 6 + 1);
        bench.dueTrue("[[1]]", "value(@[0])==$[0][0]", true, 1 + 1 + 1 + 2 + 2);
        bench.dueTrue("[1,2,3]", "count(@.*)>count(@[:2])", true, 4);
        bench.dueTrue("[1,2,3]", "count(@.*)<=count(@[:2])", false, 5);
        bench.dueTrue("[\"ab\",\"c\"]", "length(@[0])>length(@[1])", true, 4);
        bench.dueTrue("[1,2]", "count(@[?@>1])==1", true, 1 + 1 + 3 + 1);
    }

    // What stands behind a told && or || is not asked, and costs nothing.
    private static void dueLogic() {
        bench.dueTrue("1", "@==1||@==2", true, 3);
        bench.dueTrue("2", "@==1||@==2", true, 4);
        bench.dueTrue("3", "@==1||@==2", false, 4);
        bench.dueTrue("1", "@==1&&@==2", false, 4);
        bench.dueTrue("2", "@==1&&@==2", false, 3);
        bench.dueTrue("1", "@==1&&@==1", true, 4);
        bench.dueTrue("1", "@==1||@==1&&@==2", true, 3);
        bench.dueTrue("2", "@==1&&@==2||@==2", true, 4);
        bench.dueTrue("2", "@==1&&(@==2||@==2)", false, 3);
        bench.dueTrue("2", "(@==1||@==2)&&@==3", false, 5);
        bench.dueTrue("1", "!(@==1)", false, 3);
        bench.dueTrue("1", "!(@==2)", true, 3);
        bench.dueTrue("1", "!(!(@==1))", true, 3);
        bench.dueTrue("1", "!(@==2||@==1)", false, 4);
        bench.dueTrue("1", "!(@==2&&@==1)", true, 3);
        bench.dueTrue("1", "!@.a&&!@.b", true, 4);
        bench.dueTrue("1", "!@&&@", false, 2);
        bench.dueTrue("1", "((@))", true, 2);
        bench.dueTrue("1", "@.a||@.b||@", true, 4);
        bench.dueTrue("1", "@&&@.a&&@.b", false, 3);
        bench.dueTrue("1", "@.a&&@||@", true, 3);
        bench.dueTrue("1", "!(@.a)&&@", true, 3);
        bench.dueTrue("1", "(((@.a)||@))&&(@)", true, 3);
    }

    private static void dueNested() {
        bench.dueFound("[[1,2],[3]]", "$[?@[?@>2]]", "[1]", 1 + 1 + 1 + 2 + 1 + 1 + 1);
        bench.dueFound("[[1,2],[3]]", "$[?@[?@==$[1][0]]]", "[1]", 1 + (1 + 1 + 2 * 4) + (1 + 1 + 4));
        bench.dueFound("[[[5]],[[6]]]", "$[?@[?@[?@==6]]]", "[1]", 1 + 2 * (1 + 1 + 1 + 1 + 1 + 1));
        bench.dueFound("{\"a\":[{\"x\":1},{\"x\":2}],\"m\":2}", "$.a[?@.x==$.m]", "['a'][1]", 1 + 1 + 2 * 4);
        bench.dueFound("[1,[2,[3]]]", "$..[?@[?@]]", "[1] [1][1]", 12 + 6 + 5 + 2);
        bench.dueFound("[1]", "$" + Bench.repeat("[?$", 16) + Bench.repeat("]", 16), "[0]", 32);
        bench.dueFound("[[1]]", "$[?count(@[?count(@[?@])==0])==1]", "[0]", 1 + 1 + 1 + 1 + 1 + 1 + 1);
    }

    // The examples of RFC 9535, 2.3.5.3, that need no match() or search(). ( ) costs no LOOK of its own.
    private static void dueRfc() {
        bench.dueFound(RFC, "$.a[?@.b == 'kilo']", "['a'][9]", 26);
        bench.dueFound(RFC, "$.a[?(@.b == 'kilo')]", "['a'][9]", 26);
        bench.dueFound(RFC, "$.a[?@>3]", "['a'][1] ['a'][4] ['a'][5]", 12);
        bench.dueFound(RFC, "$.a[?@.b]", "['a'][6] ['a'][7] ['a'][8] ['a'][9]", 22);
        bench.dueFound(RFC, "$[?@.*]", "['a'] ['o']", 7);
        bench.dueFound(RFC, "$[?@[?@.b]]", "['a']", 37);
        bench.dueFound(RFC, "$.o[?@<3, ?@<3]", "['o']['p'] ['o']['q'] ['o']['p'] ['o']['q']", 13);
        bench.dueFound(RFC, "$.a[?@<2 || @.b == \"k\"]", "['a'][2] ['a'][7]", 25);
        bench.dueFound(RFC, "$.o[?@>1 && @<4]", "['o']['q'] ['o']['r']", 7);
        bench.dueFound(RFC, "$.o[?@.u || @.x]", "['o']['t']", 16);
        bench.dueFound(RFC, "$.a[?@.b == $.x]", "['a'][0] ['a'][1] ['a'][2] ['a'][3] ['a'][4] ['a'][5]", 32);
        bench.dueFound(RFC, "$.a[?@ == @]", "['a'][0] ['a'][1] ['a'][2] ['a'][3] ['a'][4] ['a'][5] ['a'][6] ['a'][7] ['a'][8] ['a'][9]", 26);
    }
}
