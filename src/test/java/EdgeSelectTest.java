import java.util.ArrayList;
import java.util.List;

/** Terms IV: what is selected, TRUTH, LOOKS, NORMALIZED PATHS and TEXTS, each sentence at its edges. */
public final class EdgeSelectTest {
    private static final Bench BENCH = new Bench();
    private static final long GREATEST = 9007199254740991L;
    private static final String[] KINDS = {"null", "false", "true", "0", "-7", "\"\"", "\"abc\"", "[]", "[1,2]", "{}", "{\"a\":1,\"b\":2}"};

    public static void main(String[] args) {
        dueOrder();
        dueDescent();
        dueMembers();
        dueElements();
        dueSlices();
        dueOtherKinds();
        dueEnds();
        dueTests();
        dueNothing();
        dueLength();
        dueCount();
        dueValue();
        dueTable();
        dueEqual();
        dueLess();
        dueLooks();
        dueTired();
        dueFirstOfBoth();
        duePathsAndTexts();
        BENCH.end();
    }

    private static void dueOrder() {
        BENCH.sentence("of each node of the list in its order what the selectors, in their order, select of it, one list behind the other");
        BENCH.dueFound("[[1,2],[3,4]]", "$[*][1,0]", "[0][1] [0][0] [1][1] [1][0]", 1 + 4);
        BENCH.dueFound("[[1,2],[3,4]]", "$[1,0][*]", "[1][0] [1][1] [0][0] [0][1]", 2 + 2);
        BENCH.dueFound("[[1,2],[3,4]]", "$[0,0][0,0]", "[0][0] [0][0] [0][0] [0][0]", 2 + 4);
        BENCH.dueFound("[[1,2],[3,4]]", "$[5][*][*]", "", 1);
        BENCH.dueFound("{\"b\":1,\"a\":2,\"\":3}", "$[*,'a','',?@==1]", "['b'] ['a'] [''] ['a'] [''] ['b']", 4 + 6);
        BENCH.sentence("$: the whole VALUE, @: the one that a filter is asked of");
        BENCH.dueFound("[[1,2],[3,4]]", "$[?@[0]==3]", "[1]", 1 + 2 * 3);
        BENCH.dueFound("[[1,2],[3,4]]", "$[?$[0][0]==1]", "[0] [1]", 1 + 2 * 4);
        BENCH.dueFound("[[1,2],[3,4]]", "$[?@[?@==$[1][1]]]", "[1]", 1 + 2 * (1 + 1 + 2 * (1 + 2 + 1)));
        BENCH.dueFound("7", "$", "", 0);
    }

    private static void dueDescent() {
        BENCH.sentence(".. does so for the node, then for all below it: a node ahead of what is below it, elements and members in order");
        BENCH.dueFound("[[1,[2]],{\"b\":[3],\"a\":4}]", "$..*", "[0] [1] [0][0] [0][1] [0][1][0] [1]['b'] [1]['a'] [1]['b'][0]", 9 * 2);
        BENCH.dueFound("[[1,[2]],{\"b\":[3],\"a\":4}]", "$..[0]", "[0] [0][0] [0][1][0] [1]['b'][0]", 9 * 2);
        BENCH.dueFound("[[1,[2]],{\"b\":[3],\"a\":4}]", "$..[1,0]", "[1] [0] [0][1] [0][0] [0][1][0] [1]['b'][0]", 9 * 3);
        for (String kind : new String[] {"null", "true", "0", "\"ab\"", "[]", "{}"}) {
            BENCH.dueFound(kind, "$..*", "", 2);
            BENCH.dueFound(kind, "$..[0,'a',*]", "", 4);
        }
        BENCH.dueFound("[[],[]]", "$[1]..*", "", 1 + 2);
        BENCH.dueFound("[[1],[2]]", "$[1]..*", "[1][0]", 1 + 4);
        BENCH.dueFound("[[1],[2]]", "$[0]..*", "[0][0]", 1 + 4);
        BENCH.dueFind(Bench.repeat("[", 30) + Bench.repeat("]", 30), "$..*", 29, 60);
        BENCH.dueFind("[" + Bench.repeat("1,", 298) + "1]", "$..*", 299, 600);
    }

    private static void dueMembers() {
        BENCH.sentence("A string or NAME: the member of that name");
        String json = "{\"\":1,\"a\":2,\"A\":3,\"aa\":4,\"\u00e9\":5,\"\uD83D\uDE00\":6,\"0\":7,\"\\u0000\":8}";
        String[] rows = {"['']", "['']", ".a", "['a']", "['a']", "['a']", ".A", "['A']", "['\\u0061a']", "['aa']", ".aa", "['aa']", ".aaa", "",
            ".b", "", ".\u00e9", "['\u00e9']", "['e\u0301']", "", ".\uD83D\uDE00", "['\uD83D\uDE00']", "['\\ud83d\\ude00']", "['\uD83D\uDE00']",
            "['0']", "['0']", "[0]", "", "['\\u0000']", "['\\u0000']", "[' a']", ""};
        for (int i = 0; i + 1 < rows.length; i += 2) {
            BENCH.dueFound(json, "$" + rows[i], rows[i + 1], 1);
        }
        BENCH.sentence("*: all elements, all members");
        BENCH.dueFound("[]", "$[*]", "", 1);
        BENCH.dueFound("{}", "$.*", "", 1);
        BENCH.dueFound("[null]", "$.*", "[0]", 1);
        BENCH.dueFound("{\"\":null}", "$[*]", "['']", 1);
    }

    private static void dueElements() {
        BENCH.sentence("INT: the element, 0 the first one, -1 the last one");
        for (int n = 0; n <= 4; n++) {
            String json = "[" + "1,2,3,4".substring(0, Math.max(0, 2 * n - 1)) + "]";
            for (long i : new long[] {-6, -5, -4, -3, -2, -1, 0, 1, 2, 3, 4, 5, GREATEST, -GREATEST, 1L << 31, 1L << 32, (1L << 32) + 1,
                -(1L << 31), -(1L << 32), 1 - (1L << 32), -1 - (1L << 32)}) {
                long place = i < 0 ? n + i : i;
                BENCH.dueFound(json, "$[" + i + "]", place >= 0 && place < n ? "[" + place + "]" : "", 1);
            }
        }
    }

    // The places that the document's words name, by holding each place against them.
    private static String places(int n, Long start, Long end, Long step) {
        List<String> all = new ArrayList<>();
        long by = step == null ? 1 : step;
        long low = by > 0 ? 0 : -1;
        long high = by > 0 ? n : n - 1;
        long from = start == null ? by > 0 ? low : high : Math.min(high, Math.max(low, start < 0 ? start + n : start));
        long to = end == null ? by > 0 ? high : low : Math.min(high, Math.max(low, end < 0 ? end + n : end));
        for (int k = 0; k < n && by != 0; k++) {
            int i = by > 0 ? k : n - 1 - k;
            boolean within = by > 0 ? i >= from && i < to : i <= from && i > to;
            if (within && (i - from) % by == 0) {
                all.add("[" + i + "]");
            }
        }
        return String.join(" ", all);
    }

    private static void dueSlices() {
        BENCH.sentence("START : END : STEP: of an array, n its length");
        Long[] ends = {null, -5L, -4L, -3L, -2L, -1L, 0L, 1L, 2L, 3L, 4L, 5L, GREATEST, -GREATEST};
        Long[] steps = {null, -3L, -2L, -1L, 0L, 1L, 2L, 3L, 4L, GREATEST, -GREATEST, -(1L << 32), 1L << 32};
        for (int n = 0; n <= 4; n++) {
            String json = "[" + "1,2,3,4".substring(0, Math.max(0, 2 * n - 1)) + "]";
            for (Long start : ends) {
                for (Long end : ends) {
                    for (Long step : steps) {
                        String query = "$[" + told(start) + ":" + told(end) + (step == null ? "" : ":" + step) + "]";
                        BENCH.dueFound(json, query, places(n, start, end, step), 1);
                    }
                }
            }
        }
        BENCH.dueFound("[1,2,3]", "$[::,0::]", "[0] [1] [2] [0] [1] [2]", 2);
        BENCH.sentence("STEP ... 0: none");
        BENCH.dueFound("[1,2,3]", "$[::0,0:3:0,-1:0:0]", "", 3);
    }

    private static String told(Long place) {
        return place == null ? "" : place.toString();
    }

    private static void dueOtherKinds() {
        BENCH.sentence("Of VALUES of another kind: nothing");
        for (String kind : KINDS) {
            boolean array = kind.startsWith("[");
            boolean object = kind.startsWith("{");
            boolean two = kind.length() > 2 && (array || object);
            int ors = two ? 2 : 0;
            BENCH.dueFound(kind, "$.a", two && object ? "['a']" : "", 1);
            BENCH.dueFound(kind, "$['a']", two && object ? "['a']" : "", 1);
            BENCH.dueFound(kind, "$[0]", two && array ? "[0]" : "", 1);
            BENCH.dueFound(kind, "$[-1]", two && array ? "[1]" : "", 1);
            BENCH.dueFound(kind, "$[:]", two && array ? "[0] [1]" : "", 1);
            BENCH.dueFound(kind, "$[::-1]", two && array ? "[1] [0]" : "", 1);
            BENCH.dueFound(kind, "$.*", two ? array ? "[0] [1]" : "['a'] ['b']" : "", 1);
            BENCH.dueFound(kind, "$[?@]", two ? array ? "[0] [1]" : "['a'] ['b']" : "", 1 + ors);
            BENCH.dueFound(kind, "$[?@==2]", two ? array ? "[1]" : "['b']" : "", 1 + 2 * ors);
        }
    }

    private static void dueEnds() {
        BENCH.sentence("TRUTH, from the left, as far as needed (&& and || end when they are told)");
        // Each ? costs one LOOK for the selector, one for the OR, one for each == that is asked.
        String[] parts = {"1==2", "1==1"};
        for (int i = 0; i < 8; i++) {
            boolean a = (i & 1) != 0;
            boolean b = (i & 2) != 0;
            boolean c = (i & 4) != 0;
            String x = parts[i & 1];
            String y = parts[i >> 1 & 1];
            String z = parts[i >> 2];
            BENCH.dueTrue("0", x + "||" + y + "||" + z, a || b || c, 2 + (a ? 1 : b ? 2 : 3));
            BENCH.dueTrue("0", x + "&&" + y + "&&" + z, a && b && c, 2 + (!a ? 1 : !b ? 2 : 3));
            BENCH.dueTrue("0", x + "||" + y + "&&" + z, a || b && c, 2 + (a ? 1 : !b ? 2 : 3));
            BENCH.dueTrue("0", x + "&&" + y + "||" + z, a && b || c, 2 + (!a ? 2 : b ? 2 : 3));
            BENCH.dueTrue("0", "(" + x + "||" + y + ")&&" + z, (a || b) && c, 2 + (a ? 2 : b ? 3 : 2));
            BENCH.dueTrue("0", x + "&&(" + y + "||" + z + ")", a && (b || c), 2 + (!a ? 1 : b ? 2 : 3));
            BENCH.dueTrue("0", "!(" + x + "&&" + y + ")||" + z, !(a && b) || c, 2 + (!a ? 1 : !b ? 2 : 3));
            BENCH.dueTrue("0", "!(" + x + ")&&!(!(" + y + "))", !a && b, 2 + (a ? 1 : 2));
        }
    }

    private static void dueTests() {
        BENCH.sentence("a PATH as a TEST: whether its nodelist has a node");
        for (String kind : KINDS) {
            BENCH.dueTrue(kind, "@", true, 2);
            BENCH.dueTrue(kind, "!@", false, 2);
            BENCH.dueTrue("{\"x\":" + kind + "}", "@.x", true, 3);
            BENCH.dueTrue("{\"x\":" + kind + "}", "@.y", false, 3);
            BENCH.dueTrue("{\"x\":" + kind + "}", "!@.x", false, 3);
            BENCH.dueTrue("{\"x\":" + kind + "}", "!@.y", true, 3);
            boolean two = kind.length() > 2 && (kind.startsWith("[") || kind.startsWith("{"));
            BENCH.dueTrue(kind, "@.*", two, 3);
            BENCH.dueTrue(kind, "@..*", two, 2 + (two ? 6 : 2));
        }
    }

    private static void dueNothing() {
        BENCH.sentence("a SINGULAR one: its node's VALUE, else NOTHING");
        for (String kind : KINDS) {
            BENCH.dueTrue("{\"x\":" + kind + "}", "@.x==@.y", false, 4);
            BENCH.dueTrue("{\"x\":" + kind + "}", "@.y==@.x", false, 4);
            BENCH.dueTrue("{\"x\":" + kind + "}", "@.x!=@.y", true, 4);
            BENCH.dueTrue("{\"x\":" + kind + "}", "@.x<@.y", false, 4);
            BENCH.dueTrue("{\"x\":" + kind + "}", "@.x<=@.y", false, 4);
            BENCH.dueTrue("{\"x\":" + kind + "}", "@.x>@.y", false, 4);
            BENCH.dueTrue("{\"x\":" + kind + "}", "@.x>=@.y", false, 4);
        }
        BENCH.sentence("==: NOTHING is NOTHING alone");
        BENCH.dueTrue("{}", "@.x==@.y", true, 4);
        BENCH.dueTrue("{}", "@.x!=@.y", false, 4);
        BENCH.dueTrue("{}", "@.x<@.y", false, 4);
        BENCH.dueTrue("{}", "@.x<=@.y", true, 4);
        BENCH.dueTrue("{}", "@.x>=@.y", true, 4);
        BENCH.dueTrue("{}", "@.x==null", false, 3);
        BENCH.dueTrue("{}", "@.x==false", false, 3);
        BENCH.dueTrue("{}", "@.x==0", false, 3);
        BENCH.dueTrue("{}", "@.x==''", false, 3);
        BENCH.dueTrue("{}", "null!=@.x", true, 3);
        BENCH.dueTrue("[]", "@[0]==@[-1]", true, 4);
    }

    private static void dueLength() {
        BENCH.sentence("length: of a string how many characters, an array, an object how many, else (NOTHING, too) NOTHING");
        String[] rows = {"\"\"", "0", "\"a\"", "1", "\"\u00e9\\u00e9\"", "2", "\"\uD83D\uDE00\\ud83d\\ude00\"", "2", "[]", "0", "[[1,2]]", "1",
            "{}", "0", "{\"a\":[1,2],\"b\":3}", "2"};
        for (int i = 0; i + 1 < rows.length; i += 2) {
            BENCH.dueTrue(rows[i], "length(@)==" + rows[i + 1], true, 3);
            BENCH.dueTrue(rows[i], "length(@)<=" + rows[i + 1], true, 3);
            BENCH.dueTrue(rows[i], "length(@)<" + rows[i + 1], false, 2);
            BENCH.dueTrue(rows[i], "length(@)==$.x", false, 3);
        }
        for (String kind : new String[] {"null", "true", "false", "0", "5"}) {
            BENCH.dueTrue(kind, "length(@)==$.x", true, 3);
            BENCH.dueTrue(kind, "length(@)==0", false, 2);
            BENCH.dueTrue("1", "length(" + kind + ")==$.x", true, 3);
        }
        BENCH.dueTrue("1", "length($.x)==$.x", true, 4);
        BENCH.dueTrue("1", "length($.x)==0", false, 3);
        BENCH.dueTrue("1", "length('')==0", true, 3);
        BENCH.dueTrue("1", "length('\uD83D\uDE00')==1", true, 3);
        BENCH.dueTrue("1", "length(length('ab'))==$.x", true, 3);
        BENCH.dueTrue("1", "length(count($.*))==$.x", true, 4);
        BENCH.dueTrue("[\"abc\"]", "length(value(@.*))==3", true, 4);
        BENCH.dueTrue("[\"abc\",1]", "length(value(@.*))==$.x", true, 4);
        BENCH.dueFound("[[" + Bench.repeat("1,", 297) + "1]]", "$[?length(@)==298]", "[0]", 3);
        BENCH.dueFound("[\"" + Bench.repeat("a", 1196) + "\"]", "$[?length(@)==1196]", "[0]", 3);
    }

    private static void dueCount() {
        BENCH.sentence("count: how many nodes its list has");
        BENCH.dueTrue("[]", "count(@.*)==0", true, 4);
        BENCH.dueTrue("[1]", "count(@.*)==1", true, 4);
        BENCH.dueTrue("1", "count(@)==1", true, 3);
        BENCH.dueTrue("1", "count(@.x)==0", true, 4);
        BENCH.dueTrue("[1]", "count(@[0,0,0,0])==4", true, 7);
        BENCH.dueTrue("[[1]]", "count(@..*)==2", true, 2 + 6 + 1);
        BENCH.dueFound("[" + Bench.repeat("1,", 199) + "1]", "$[?count($[*,*,*,*,*])!=1000]", "", 1 + 200 * 7);
    }

    private static void dueValue() {
        BENCH.sentence("value: the VALUE of its only node, else NOTHING");
        BENCH.dueTrue("[]", "value(@.*)==$.x", true, 4);
        BENCH.dueTrue("[7]", "value(@.*)==7", true, 4);
        BENCH.dueTrue("[null]", "value(@.*)==null", true, 4);
        BENCH.dueTrue("[7,7]", "value(@.*)==7", false, 3);
        BENCH.dueTrue("[7,7]", "value(@.*)==$.x", true, 4);
        BENCH.dueTrue("[7]", "value(@[0,0])==$.x", true, 5);
        BENCH.dueTrue("7", "value(@)==7", true, 3);
        BENCH.dueTrue("[[1,2]]", "value(@.*)==$[0][0]", true, 2 + 1 + 2 + 3);
    }

    // INTS and strings stand from the least to the greatest; the last two objects are the same one.
    private static final String[] SAMPLES = {"null", "false", "true", "-9007199254740991", "-1", "0", "1", "9007199254740991", "\"\"",
        "\"\\u0000\"", "\"A\"", "\"a\"", "\"a\\u0000\"", "\"aa\"", "\"ab\"", "\"b\"", "\"\u00e9\"", "\"\uFFFF\"", "\"\uD83D\uDE00\"", "[]", "[null]", "[0]",
        "[0,1]", "[1,0]", "[[]]", "{}", "{\"a\":0}", "{\"a\":1}", "{\"b\":0}", "{\"a\":null}", "{\"a\":0,\"b\":1}", "{\"b\":1,\"a\":0}"};

    private static boolean less(int i, int j) {
        boolean ints = i >= 3 && i <= 7 && j >= 3 && j <= 7;
        boolean strings = i >= 8 && i <= 18 && j >= 8 && j <= 18;
        return (ints || strings) && i < j;
    }

    private static boolean same(int i, int j) {
        return i == j || Math.min(i, j) == SAMPLES.length - 2;
    }

    private static void dueTable() {
        BENCH.sentence("<=: < or ==. >, >=: turned about. !=: not ==");
        for (int i = 0; i < SAMPLES.length; i++) {
            for (int j = 0; j < SAMPLES.length; j++) {
                boolean equal = same(i, j);
                boolean[] wants = {equal, !equal, less(i, j), less(i, j) || equal, less(j, i), less(j, i) || equal};
                String[] ops = {"==", "!=", "<", "<=", ">", ">="};
                for (int op = 0; op < ops.length; op++) {
                    PathHouse x = Bench.house("{\"l\":" + SAMPLES[i] + ",\"r\":" + SAMPLES[j] + ",\"t\":[0]}", "$.t[?$.l" + ops[op] + "$.r]");
                    BENCH.due(SAMPLES[i] + ops[op] + SAMPLES[j], x.find(), wants[op] ? 1 : 0);
                }
            }
        }
    }

    private static void dueEqual() {
        BENCH.sentence("arrays, if they have as many elements, each == that of the other one");
        dueEqual("[]", "[]", true, 1);
        dueEqual("[]", "[1]", false, 1);
        dueEqual("[1,2]", "[1,2]", true, 3);
        dueEqual("[1,2]", "[1]", false, 1);
        dueEqual("[1,2]", "[1,2,3]", false, 1);
        dueEqual("[1,2]", "[2,1]", false, 2);
        dueEqual("[1,2,3]", "[1,3,3]", false, 3);
        dueEqual("[[1],2]", "[[1],2]", true, 4);
        dueEqual("[[1],2]", "[[2],2]", false, 3);
        dueEqual("[]", "{}", false, 1);
        dueEqual("[1]", "{\"0\":1}", false, 1);
        dueEqual("[1]", "1", false, 1);
        BENCH.sentence("objects, if they have as many members, each with one of the same name that is ==");
        dueEqual("{}", "{}", true, 1);
        dueEqual("{}", "{\"a\":1}", false, 1);
        dueEqual("{\"a\":1}", "{\"a\":1,\"b\":2}", false, 1);
        dueEqual("{\"a\":1,\"b\":2}", "{\"b\":2,\"a\":1}", true, 3);
        dueEqual("{\"a\":1,\"b\":2}", "{\"b\":2,\"c\":1}", false, 1);
        dueEqual("{\"a\":1,\"b\":2}", "{\"c\":2,\"a\":1}", false, 2);
        dueEqual("{\"a\":1,\"b\":2}", "{\"b\":1,\"a\":2}", false, 2);
        dueEqual("{\"a\":1,\"b\":2}", "{\"b\":3,\"a\":1}", false, 3);
        dueEqual("{\"b\":3,\"a\":1}", "{\"a\":1,\"b\":2}", false, 2);
        dueEqual("{\"\":{\"\":[]}}", "{\"\":{\"\":[]}}", true, 3);
        dueEqual("{\"\\u0061\":1}", "{\"a\":1}", true, 2);
        String deep = Bench.repeat("[", 28) + Bench.repeat("]", 28);
        dueEqual(deep, deep, true, 28);
        dueEqual(deep, deep.replace("[]", "[1]"), false, 28);
    }

    // 1 for .t, 1 for ?, 1 for its OR, 2 for $.l and $.r, then the VALUES that are held against one another.
    private static void dueEqual(String left, String right, boolean want, int held) {
        String json = "{\"l\":" + left + ",\"r\":" + right + ",\"t\":[0]}";
        BENCH.dueFound(json, "$.t[?$.l==$.r]", want ? "['t'][0]" : "", 5 + held);
        BENCH.dueFound(json, "$.t[?$.l!=$.r]", want ? "" : "['t'][0]", 5 + held);
        BENCH.dueFound(json, "$.t[?$.l<=$.r]", want ? "['t'][0]" : "", 5 + held);
        BENCH.dueFound(json, "$.t[?$.l<$.r]", "", 5);
        BENCH.dueFound(json, "$.t[?$.r>$.l]", "", 5);
        BENCH.dueFound(json, "$.t[?$.r>=$.l]", want ? "['t'][0]" : "", 5 + held);
    }

    private static void dueLess() {
        BENCH.sentence("<: two INTS, two strings by their characters' numbers (a text ahead of one that it begins); else false");
        String[] up = {"\"\"", "\"a\"", "\"a\"", "\"aa\"", "\"a\"", "\"b\"", "\"ab\"", "\"b\"", "\"Z\"", "\"a\"", "\"z\"", "\"\u00e9\"", "\"\uFFFF\"",
            "\"\uD83D\uDE00\"", "\"\uE000\"", "\"\uD800\uDC00\"", "\"a\uFFFFb\"", "\"a\uD83D\uDE00a\"", "\"10\"", "\"9\"", "\"\\u0000\"",
            "\"\\u0001\"", "-1", "0", "9", "10", "-10", "-9", "-9007199254740991", "9007199254740991", "4294967295", "4294967296", "-0", "1"};
        for (int i = 0; i + 1 < up.length; i += 2) {
            String json = "{\"l\":" + up[i] + ",\"r\":" + up[i + 1] + ",\"t\":[0]}";
            BENCH.dueFound(json, "$.t[?$.l<$.r]", "['t'][0]", 5);
            BENCH.dueFound(json, "$.t[?$.r<$.l]", "", 5);
            BENCH.dueFound(json, "$.t[?$.l>$.r]", "", 5);
            BENCH.dueFound(json, "$.t[?$.r>$.l]", "['t'][0]", 5);
            BENCH.dueFound(json, "$.t[?$.l<=$.r]", "['t'][0]", 5);
            BENCH.dueFound(json, "$.t[?$.r<=$.l]", "", 6);
            BENCH.dueFound(json, "$.t[?$.r>=$.l]", "['t'][0]", 5);
            BENCH.dueFound(json, "$.t[?$.l>=$.r]", "", 6);
            BENCH.dueFound(json, "$.t[?$.l<$.l]", "", 5);
            BENCH.dueFound(json, "$.t[?$.l<=$.l]", "['t'][0]", 6);
        }
        BENCH.dueTrue("1", "@<'2'", false, 2);
        BENCH.dueTrue("\"1\"", "@<2", false, 2);
        BENCH.dueTrue("false", "@<true", false, 2);
        BENCH.dueTrue("null", "@<0", false, 2);
    }

    private static void dueLooks() {
        BENCH.sentence("LOOKS: each time that a selector is asked of a node: 1");
        BENCH.dueFind("1", "$", 1, 0);
        BENCH.dueFind("1", "$.a", 0, 1);
        BENCH.dueFind("1", "$[0,'a',*,:,?@]", 0, 5);
        BENCH.dueFind("[1,2]", "$[0,1,2][*]", 0, 3 + 2);
        BENCH.dueFind("[1,2]", "$.a.b.c", 0, 1);
        BENCH.sentence("each time that an OR is asked of a VALUE: 1 more");
        BENCH.dueFind("[]", "$[?@]", 0, 1);
        BENCH.dueFind("[1]", "$[?@]", 1, 2);
        BENCH.dueFind("{\"a\":1,\"b\":2,\"c\":3}", "$[?@]", 3, 4);
        BENCH.dueFind("[[1,2],[]]", "$[?@[?@]]", 1, 1 + (2 + 2) + 2);
        BENCH.sentence("each node that .. comes to (itself, too): 1");
        BENCH.dueFind("1", "$..a", 0, 2);
        BENCH.dueFind("[1,[2]]", "$..a", 0, 8);
        BENCH.dueFind("[1,[2]]", "$..[0,1]", 3, 12);
        BENCH.sentence("each two VALUES that == holds against one another: 1 more");
        BENCH.dueTrue("1", "@==1", true, 3);
        BENCH.dueTrue("1", "@=='1'", false, 3);
        BENCH.dueTrue("1", "@==$.x", false, 3);
        BENCH.dueTrue("1", "$.x==$.x", true, 4);
        BENCH.dueTrue("1", "@!=1", false, 3);
        BENCH.sentence("<= holds them where < is false");
        BENCH.dueTrue("1", "@<=2", true, 2);
        BENCH.dueTrue("1", "@<=1", true, 3);
        BENCH.dueTrue("1", "@<=0", false, 3);
        BENCH.dueTrue("1", "@>=0", true, 2);
        BENCH.dueTrue("1", "@>=1", true, 3);
        BENCH.dueTrue("1", "@>=2", false, 3);
        BENCH.dueTrue("1", "@<1", false, 2);
        BENCH.dueTrue("1", "@<='1'", false, 3);
    }

    // 199 VALUES cost 301 LOOKS each in the first filter, which selects none; each 999 costs one; element 0 is left.
    private static void dueTired(String first, String behind, int last, int answer) {
        String json = "[" + first + Bench.repeat(",1", 198) + "]";
        String query = "$[?count($[" + Bench.repeat("0,", 298) + "0])==0";
        int most = 99 - last;
        BENCH.dueFind(json, query + Bench.repeat(",999", most - 1) + ",0]" + behind, answer, 59999);
        BENCH.dueFind(json, query + Bench.repeat(",999", most) + ",0]" + behind, answer, 60000);
        for (int more = 1; more <= last; more++) {
            BENCH.dueFind(json, query + Bench.repeat(",999", most + more) + ",0]" + behind, PathHouse.TIRED, 60000);
        }
    }

    private static void dueTired() {
        BENCH.sentence("A find() is TIRED when one more would be due");
        dueTired("1", "", 0, 1);
        dueTired("1", ".a", 1, 0);
        dueTired("[1]", "[?@]", 2, 1);
        dueTired("[1]", "[?@==1]", 3, 1);
        dueTired("[1]", "[?@.a]", 3, 0);
        dueTired("[[1,2]]", "[?@==@]", 5, 1);
        dueTired("[{\"a\":1}]", "[?@<=@]", 4, 1);
        dueTired("[1]", "..*", 4, 1);
    }

    private static void dueFirstOfBoth() {
        BENCH.sentence("TOO MANY when a nodelist would have a node too many; the first of both");
        String json = "{\"a\":[" + Bench.repeat("1,", 249) + "1],\"b\":[" + Bench.repeat("1,", 45) + "1]}";
        // 1 for .a; 4 for 1,000 nodes; 1 + 250 * (1 + 1 + 5 * (1 + 46)); 2 * (1 + 250): 59,758 LOOKS, and one for each ''.
        String query = "$.a[*,*,*,*,?$.b[?@<0,?@<0,?@<0,?@<0,?@<0],?!@,?!@";
        BENCH.dueFind(json, query + Bench.repeat(",''", 240) + "]", 1000, 59998);
        BENCH.dueFind(json, query + Bench.repeat(",''", 240) + ",0]", PathHouse.MANY, 59999);
        BENCH.dueFind(json, query + Bench.repeat(",''", 241) + ",0]", PathHouse.MANY, 60000);
        BENCH.dueFind(json, query + Bench.repeat(",''", 242) + "]", 1000, 60000);
        BENCH.dueFind(json, query + Bench.repeat(",''", 242) + ",0]", PathHouse.TIRED, 60000);
        BENCH.dueFind(json, query + Bench.repeat(",''", 240) + ",?@]", PathHouse.MANY, 60000);
        BENCH.dueFind(json, query + Bench.repeat(",''", 241) + ",?@]", PathHouse.TIRED, 60000);
        BENCH.dueFind(json, query + Bench.repeat(",''", 240) + ",0,0,0,0]", PathHouse.MANY, 59999);
    }

    private static void duePathsAndTexts() {
        BENCH.sentence("In a name ' and \\ with a \\ ahead; 8, 9, 10, 12, 13 as \\b \\t \\n \\f \\r; others below 32 as \\u00 and two small "
                + "hexadecimal digits; all else as it is");
        for (int c = 0; c < 0x180; c++) {
            dueWritten(c);
        }
        for (int c : new int[] {0x7FF, 0x800, 0xFFF, 0x1000, 0xD7FF, 0xE000, 0xFFFD, 0xFFFF, 0x10000, 0x1F600, 0x3FFFF, 0x40000, 0xFFFFF, 0x100000,
            0x10FFFF}) {
            dueWritten(c);
        }
        BENCH.sentence("NORMALIZED PATHS: $, then for each step [' name '] or [ number ]");
        BENCH.dueFound("{\"\":[[],{\"a b\":[0,1,2,3,4,5,6,7,8,9,10]}]}", "$..[0,9,10]",
                "[''][0] ['']" + "[1]['a b'][0] ['']" + "[1]['a b'][9] ['']" + "[1]['a b'][10]", 16 * 4);
        BENCH.sentence("TEXTS: without S");
        String[] texts = {" [ 1 ,\t2 ]\n", "[1,2]", " { \"a\" : { } ,\r\"b\" : [ ] } ", "{\"a\":{},\"b\":[]}", "[-0 , -1,-10 , 10]", "[0,-1,-10,10]",
            "[null , true , false]", "[null,true,false]", "\" \"", "\" \""};
        for (int i = 0; i + 1 < texts.length; i += 2) {
            PathHouse x = Bench.house(texts[i], "$");
            x.find();
            BENCH.due("text(0) of " + texts[i], Bench.text(x, 0), texts[i + 1]);
        }
    }

    private static void dueWritten(int c) {
        StringBuilder told = new StringBuilder();
        for (char half : Character.toChars(c)) {
            told.append(String.format("\\u%04X", (int) half));
        }
        PathHouse x = Bench.house("{\"" + told + "\":\"" + told + "\"}", "$.*");
        BENCH.due("find() of " + told, x.find(), 1);
        String one = new String(Character.toChars(c));
        if (c < 32) {
            int at = "\b\t\n\f\r".indexOf(c);
            one = at >= 0 ? "\\" + "btnfr".charAt(at) : String.format("\\u%04x", c);
        } else if (c == '\\') {
            one = "\\\\";
        }
        BENCH.due("path(0) of " + told, Bench.path(x, 0), "$['" + (c == '\'' ? "\\'" : one) + "']");
        BENCH.due("text(0) of " + told, Bench.text(x, 0), "\"" + (c == '"' ? "\\\"" : one) + "\"");
    }
}
