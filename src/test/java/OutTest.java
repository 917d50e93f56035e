/** Promises 9, 10 and 11: path, text and out. */
public final class OutTest {
    public static void main(String[] args) {
        Bench bench = new Bench();
        duePaths(bench);
        dueTexts(bench);
        dueBytes(bench);
        dueStays(bench);
        dueLongest(bench);
        bench.end();
    }

    private static void duePath(Bench bench, String json, String query, String want) {
        PathHouse x = Bench.house(json, query);
        bench.due(query + " in " + json + ": find()", x.find(), 1);
        bench.due("path(0) of " + query, x.path(0), Bench.utf8(want).length);
        bench.due("OUT of path(0) of " + query, Bench.longOut(json, query, true), want);
    }

    private static void duePaths(Bench bench) {
        duePath(bench, "7", "$", "$");
        duePath(bench, "{\"a\":[0,{\"b c\":1}]}", "$.a[1]['b c']", "$['a'][1]['b c']");
        duePath(bench, "[[[1]]]", "$[-1][-1][-1]", "$[0][0][0]");
        duePath(bench, "[" + Bench.repeat("1,", 298) + "1]", "$[-1]", "$[298]");
        duePath(bench, "[1,1,1,1,1,1,1,1,1,1,1]", "$[10]", "$[10]");
        duePath(bench, "[1,1,1,1,1,1,1,1,1,1,1]", "$[9]", "$[9]");
        duePath(bench, "{\"\":1}", "$.*", "$['']");
        duePath(bench, "{\"'\":1}", "$.*", "$['\\'']");
        duePath(bench, "{\"\\\"\":1}", "$.*", "$['\"']");
        duePath(bench, "{\"\\\\\":1}", "$.*", "$['\\\\']");
        duePath(bench, "{\"\\/\":1}", "$.*", "$['/']");
        duePath(bench, "{\"\\b\\t\\n\\f\\r\":1}", "$.*", "$['\\b\\t\\n\\f\\r']");
        duePath(bench, "{\"\\u0008\\u0009\\u000a\\u000c\\u000D\":1}", "$.*", "$['\\b\\t\\n\\f\\r']");
        duePath(bench, "{\"\\u0000\\u0001\\u000b\\u000E\\u001F\":1}", "$.*", "$['\\u0000\\u0001\\u000b\\u000e\\u001f']");
        duePath(bench, "{\"\\u0010\\u0019\\u001a\\u0020\\u007f\":1}", "$.*", "$['\\u0010\\u0019\\u001a \u007f']");
        duePath(bench, "{\"\\u00e9\u00e9\\u20ac\\ud83d\\ude00\":1}", "$.*", "$['\u00e9\u00e9\u20ac\uD83D\uDE00']");
        duePath(bench, "{\"\\u0080\\u07ff\\u0800\\uffff\\ud800\\udc00\\udbff\\udfff\":1}", "$.*",
                "$['\u0080\u07ff\u0800\uffff\uD800\uDC00\uDBFF\uDFFF']");
        duePath(bench, "{\"0\":1}", "$['0']", "$['0']");
    }

    private static void dueText(Bench bench, String json, String want) {
        PathHouse x = Bench.house(json, "$");
        bench.due("find() in " + json, x.find(), 1);
        bench.due("text(0) of " + json, x.text(0), Bench.utf8(want).length);
        bench.due("OUT of text(0) of " + json, Bench.longOut(json, "$", false), want);
    }

    private static void dueTexts(Bench bench) {
        dueText(bench, " null ", "null");
        dueText(bench, "true", "true");
        dueText(bench, "false", "false");
        dueText(bench, "-0", "0");
        dueText(bench, "0", "0");
        dueText(bench, "10", "10");
        dueText(bench, "-9", "-9");
        dueText(bench, "100200", "100200");
        dueText(bench, "9007199254740991", "9007199254740991");
        dueText(bench, "-9007199254740991", "-9007199254740991");
        dueText(bench, "-1000000000000000", "-1000000000000000");
        dueText(bench, "\"\"", "\"\"");
        dueText(bench, "\"a'b\\\"c\\\\d\\/e\"", "\"a'b\\\"c\\\\d/e\"");
        dueText(bench, "\"\\b\\t\\n\\f\\r\\u0001\\u001F\\u007f\"", "\"\\b\\t\\n\\f\\r\\u0001\\u001f\u007f\"");
        dueText(bench, "\"\\u0041\\u00e9\\u20ac\\ud83d\\ude00\"", "\"A\u00e9\u20ac\uD83D\uDE00\"");
        dueText(bench, "[ ]", "[]");
        dueText(bench, "{ }", "{}");
        dueText(bench, " [ 1 , [ 2 , { } ] , \"a b\" ] ", "[1,[2,{}],\"a b\"]");
        dueText(bench, "{ \"b\" : 1 ,\n\"a'\" : { \"\\u0022\" : [ null , true ] } }", "{\"b\":1,\"a'\":{\"\\\"\":[null,true]}}");
        String deep = Bench.repeat("[", 30) + Bench.repeat("]", 30);
        dueText(bench, deep, deep);
        String nested = Bench.repeat("{\"a\":", 29) + "[]" + Bench.repeat("}", 29);
        dueText(bench, nested, nested);
        String wide = "[" + Bench.repeat("1,", 298) + "1]";
        dueText(bench, wide, wide);
        PathHouse x = Bench.house("{\"a\":[1,{\"b\":\"c\"}]}", "$..*");
        bench.due("find()", x.find(), 4);
        bench.due("text(0)", Bench.text(x, 0), "[1,{\"b\":\"c\"}]");
        bench.due("text(1)", Bench.text(x, 1), "1");
        bench.due("text(2)", Bench.text(x, 2), "{\"b\":\"c\"}");
        bench.due("text(3)", Bench.text(x, 3), "\"c\"");
    }

    private static void dueBytes(Bench bench) {
        PathHouse x = Bench.house("\"\u00e9\"", "$");
        bench.dueNoByte(x, 0);
        x.find();
        x.text(0);
        bench.due("out(0)", x.out(0), 34);
        bench.due("out(1)", x.out(1), 195);
        bench.due("out(2)", x.out(2), 169);
        bench.due("out(3)", x.out(3), 34);
        bench.dueNoByte(x, 4);
        bench.dueNoByte(x, -1);
        bench.dueNoByte(x, Integer.MAX_VALUE);
        bench.dueNoByte(x, Integer.MIN_VALUE);
        x.path(0);
        bench.due("out(0)", x.out(0), 36);
        bench.dueNoByte(x, 1);
        bench.dueNoByte(x, 3);
        bench.due("about(7)", x.about(7), 1);
    }

    private static void dueStays(Bench bench) {
        PathHouse x = Bench.house("[10,20]", "$[1]");
        bench.due("path(0) ahead of find()", x.path(0), PathHouse.NONE);
        bench.due("about(7)", x.about(7), 0);
        x.find();
        bench.due("path(0)", x.path(0), 4);
        bench.due("path(1)", x.path(1), PathHouse.NONE);
        bench.due("text(1)", x.text(1), PathHouse.NONE);
        bench.due("text(-1)", x.text(-1), PathHouse.NONE);
        bench.due("path(-1)", x.path(-1), PathHouse.NONE);
        bench.due("text(" + Integer.MAX_VALUE + ")", x.text(Integer.MAX_VALUE), PathHouse.NONE);
        bench.due("OUT behind NONE", Bench.out(x), "$[1]");
        bench.due("text(0)", x.text(0), 2);
        bench.due("OUT", Bench.out(x), "20");
        Bench.json(x, "[30]");
        Bench.query(x, "$[0]");
        bench.due("OUT behind another value and query", Bench.out(x), "20");
        bench.due("text(0) behind another query", x.text(0), PathHouse.NONE);
        x.find();
        bench.due("OUT behind find()", Bench.out(x), "20");
        bench.due("path(0)", Bench.path(x, 0), "$[0]");
    }

    // 1,194 quotes in a name: each of them needs a \ in the path.
    private static void dueLongest(Bench bench) {
        duePath(bench, "{\"" + Bench.repeat("'", 1194) + "\":1}", "$.*", "$['" + Bench.repeat("\\'", 1194) + "']");
        PathHouse y = Bench.house("[\"" + Bench.repeat("'", 1196) + "\"]", "$");
        bench.due("find()", y.find(), 1);
        bench.due("text(0)", y.text(0), 1200);
        PathHouse z = Bench.house(Bench.repeat("[", 28) + "{\"" + Bench.repeat("'", 1138) + "\":1}" + Bench.repeat("]", 28), "$.."
                + "[?@==1]");
        bench.due("find()", z.find(), 1);
        bench.due("path(0)", z.path(0), 1 + 28 * 3 + 4 + 2 * 1138);
    }
}
