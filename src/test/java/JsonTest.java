/** Promises 3 and 5: json, and the fault of it. */
public final class JsonTest {
    // A text, then its FAULT and place.
    private static final String[] FORMS = {
        "", "1@0", " ", "1@1", "null", "0@-1", "nul", "1@3", "nulL", "1@3", "nullx", "1@4", "nullnull", "1@4",
        "true", "0@-1", "tru", "1@3", "tRue", "1@1", "false", "0@-1", "falze", "1@3", "False", "1@0", "x", "1@0",
        "0", "0@-1", "-0", "0@-1", "00", "1@1", "01", "1@1", "-", "1@1", "-a", "1@1", "--1", "1@1", "-01", "1@2",
        "+1", "1@0", ".5", "1@0", "1.0", "1@1", "1e2", "1@1", "1E2", "1@1", "12", "0@-1", "-12", "0@-1", "1 2", "1@2",
        "1-", "1@1", "- 1", "1@1", "7,", "1@1",
        "\t\n\r 1 \t\n\r", "0@-1", "\u000b1", "1@0", "\f1", "1@0", "1\u00a0", "1@1", "\uFEFF1", "1@0",
        "[", "1@1", "[]", "0@-1", "[ ]", "0@-1", "[ \n 1 \t , \r 2 ]", "0@-1", "[1", "1@2", "[1,", "1@3", "[1, ", "1@4",
        "[1,]", "1@3", "[,1]", "1@1", "[1,,2]", "1@3", "[1 1]", "1@3", "[1]]", "1@3", "[1}", "1@2", "]", "1@0",
        "[nul]", "1@4", "[1x]", "1@2", "[[],[[]]]", "0@-1", "[1:2]", "1@2",
        "{", "1@1", "{}", "0@-1", "{ }", "0@-1", "{ \n\"a\" \t: \r1 , \"b\":2 }", "0@-1", "{a", "1@1", "{1:1}", "1@1",
        "{\"a\"", "1@4", "{\"a\" 1", "1@5", "{\"a\":", "1@5", "{\"a\":}", "1@5", "{\"a\":1", "1@6", "{\"a\":1]", "1@6",
        "{\"a\":1,}", "1@7", "{\"a\":1 \"b\"", "1@7", "{\"a\":1,b", "1@7", "{,", "1@1", "{\"a\",", "1@4", "}", "1@0",
        "{\"a\"::1}", "1@5", "{'a':1}", "1@1", "{null:1}", "1@1", "{[]:1}", "1@1", "{\"a\":1,,", "1@7", "{}{", "1@2",
        "\"", "1@1", "\"a", "1@2", "\"a\"", "0@-1", "\"\"", "0@-1", "\"a\"b", "1@3", "'a'", "1@0", "\"\u007f'\"", "0@-1",
        "\"\u001f\"", "1@1", "\"a\tb\"", "1@2", "\"a\nb\"", "1@2", "\"\u0000\"", "1@1", "\" \"", "0@-1",
        "\"\\\"\\\\\\/\\b\\f\\n\\r\\t\\u0000\"", "0@-1", "\"\\'\"", "1@2", "\"\\x\"", "1@2", "\"\\\"", "1@3",
        "\"\\", "1@2", "\"\\U0041\"", "1@2", "\"\\B\"", "1@2", "\"\\v\"", "1@2", "\"\\0\"", "1@2", "\"\\a\"", "1@2",
        "\"\\u004\"", "1@6", "\"\\u00g0\"", "1@5", "\"\\u\"", "1@3", "\"\\u12", "1@5", "\"\\uaBcF\"", "0@-1",
        "\"\\u 041\"", "1@3", "\"\\u004:\"", "1@6", "\"\\u004@\"", "1@6", "\"\\u004G\"", "1@6", "\"\\u004`\"", "1@6",
        "\"\\u00/0\"", "1@5",
    };

    private static final String[] SURROGATES = {
        "\"\\ud83d\\ude00\"", "0@-1", "\"\\uD800\\uDC00\"", "0@-1", "\"\\udbff\\udfff\"", "0@-1", "\"\\uD7FF\"", "0@-1",
        "\"\\uE000\"", "0@-1", "\"\\uDC00\"", "1@4", "\"\\udfff\"", "1@4", "\"\\ud83d\"", "1@7", "\"\\ud83dx", "1@7",
        "\"\\ud83d\\n\"", "1@8", "\"\\ud83d\\u0041\"", "1@9", "\"\\ud83d\\ud83d\"", "1@10", "\"\\ud83d\\udbff\"", "1@10",
        "\"\\ud83d\\ud7ff\"", "1@10", "\"\\ud83d\\ue000\"", "1@9", "\"\\ud83d\\udc0g\"", "1@12", "\"\\ud83d", "1@7",
        "\"\\ud83d\\", "1@8", "\"\\ud83d\\u", "1@9", "\"\\ud8\"", "1@5", "\"\\ud83d\\\\\"", "1@8", "\"\\udg00\"", "1@4",
        "\"\\ud83d\\ude00\\ude00\"", "1@16", "\"\\ud83d\\ude00\\ud83d\\ude00\"", "0@-1",
    };

    // Each character is one byte.
    private static final String[] BYTES = {
        "\"\u0080\"", "1@1", "\"\u00bf\"", "1@1", "\"\u00c3\u00a9\"", "0@-1", "\"\u00c3\"", "1@1", "\"\u00c3", "1@1",
        "\"a\u00c3(\"", "1@2", "\"\u00c0\u0080\"", "1@1", "\"\u00c1\u00bf\"", "1@1", "\"\u00c2\u0080\"", "0@-1",
        "\"\u00df\u00bf\"", "0@-1", "\"\u00e0\u009f\u00bf\"", "1@1", "\"\u00e0\u00a0\u0080\"", "0@-1",
        "\"\u00ed\u009f\u00bf\"", "0@-1", "\"\u00ed\u00a0\u0080\"", "1@1", "\"\u00ed\u00bf\u00bf\"", "1@1",
        "\"\u00ee\u0080\u0080\"", "0@-1", "\"\u00ef\u00bf\u00bf\"", "0@-1", "\"\u00f0\u008f\u00bf\u00bf\"", "1@1",
        "\"\u00f0\u0090\u0080\u0080\"", "0@-1", "\"\u00f4\u008f\u00bf\u00bf\"", "0@-1",
        "\"\u00f4\u0090\u0080\u0080\"", "1@1", "\"\u00f5\u0080\u0080\u0080\"", "1@1", "\"\u00ff\"", "1@1",
        "\"ab\u00e2\u0082", "1@3", "\"ab\u00e2\u0082\"", "1@3", "\"ab\u00e2(\u00a1\"", "1@3", "\"\u00f0\u009f\u0098", "1@1",
        "\"\u00f0\u009f\u0098\"", "1@1", "\"\u00f8\u0088\u0080\u0080\u0080\"", "1@1", "\"\u00c3\u00c3\u00a9\"", "1@1",
        "\"\u0081\u0080\u0080\u0080\"", "1@1", "\"\u00f9\u0080\u0080\u0080\"", "1@1", "\"\u0084\u0080\u0080\u0080\"", "1@1",
        "\"\u00e2\u0082\u00c0\"", "1@1", "\u00ff", "1@0", "[\u00c3\u00a9]", "1@1", "{\"\u00c3\":1}", "1@2",
        "\"\\\u00c3\u00a9\"", "1@2", "\"\\u\u00c3\u00a9\"", "1@3",
    };

    private static final String[] NAMES = {
        "{\"a\":1,\"a\":2}", "2@7", "{\"a\":1,\"\\u0061\"", "2@7", "{\"a\":1,\"a\"x", "2@7", "{\"a\":1,\"a", "1@9",
        "{\"a\":{\"a\":1}}", "0@-1", "[{\"a\":1},{\"a\":1}]", "0@-1", "{\"a\":{\"b\":1},\"b\":1}", "0@-1",
        "{\"\":1,\"\":2}", "2@6", "{\"\u00e9\":1,\"\\u00e9\":2}", "2@8", "{\"\\u00e9\":1,\"\u00e9\":2}", "2@12",
        "{\"A\":1,\"a\":2}", "0@-1", "{\"a\":1,\"b\":2, \"b\":3}", "2@14", "{\"a\":1,\"ab\":1,\"b\":1,\"ba\":1}", "0@-1",
        "{\"\uD83D\uDE00\":1,\"\\ud83d\\ude00\":2}", "2@10", "{\"\\/\":1,\"/\":2}", "2@8", "{\"a\":[],\"a\":[]}", "2@8",
        "{\"a\":{\"x\":1,\"y\":2},\"b\":{\"x\":1},\"a\":0}", "2@31", "[{\"a\":1,\"b\":{\"a\":1,\"a\":2}}]", "2@19",
        "{\"a\":1,\"a\\x\"", "1@10",
    };

    private static final String[] RANGES = {
        "9007199254740991", "0@-1", "-9007199254740991", "0@-1", "9007199254740992", "3@0", "-9007199254740992", "3@0",
        "[1, 9007199254740992x", "3@4", "[9007199254740992", "3@1", "10000000000000000", "3@0",
        "18446744073709551617", "3@0", "[-18446744073709551617]", "3@1", "9007199254740992.5", "3@0",
        "[9007199254740992,x]", "3@1", "[x,9007199254740992]", "1@1", "{\"a\":9007199254740992,\"a\":1}", "3@5",
        "{\"a\":1,\"a\":9007199254740992}", "2@7", "9007199254740990", "0@-1", "[9007199254740992,99007199254740992]", "3@1",
        " 9007199254740993 ", "3@1", "4294967296", "0@-1", "-2147483649", "0@-1",
    };

    public static void main(String[] args) {
        Bench bench = new Bench();
        dueFaults(bench, FORMS, false);
        dueFaults(bench, SURROGATES, false);
        dueFaults(bench, BYTES, true);
        dueFaults(bench, NAMES, false);
        dueFaults(bench, RANGES, false);
        dueLongDigits(bench);
        dueValueLimit(bench);
        dueDepthLimit(bench);
        dueCut(bench);
        dueKept(bench);
        dueLatest(bench);
        dueAnew(bench);
        bench.end();
    }

    private static void dueFaults(Bench bench, String[] rows, boolean raw) {
        for (int i = 0; i + 1 < rows.length; i += 2) {
            if (raw) {
                bench.dueRawJson(rows[i], rows[i + 1]);
            } else {
                bench.dueJson(rows[i], rows[i + 1]);
            }
        }
    }

    private static void dueLongDigits(Bench bench) {
        bench.dueJson(Bench.repeat("9", 1200), "3@0");
        bench.dueJson("-1" + Bench.repeat("0", 1198), "3@0");
        bench.dueJson("[" + Bench.repeat("1", 1199), "3@1");
        bench.dueJson("0" + Bench.repeat("1", 1199), "1@1");
        bench.dueJson(Bench.repeat(" ", 1199) + "5", "0@-1");
        bench.dueJson(Bench.repeat(" ", 1200), "1@1200");
    }

    private static void dueValueLimit(Bench bench) {
        String many = "[" + Bench.repeat("1,", 298);
        bench.dueJson(many + "1]", "0@-1");
        bench.dueJson(many + "1,1]", "4@599");
        bench.dueJson(many + "1,x]", "1@599");
        bench.dueJson(many + "1,]", "1@599");
        bench.dueJson(many + "1,  -", "4@601");
        bench.dueJson(many + "1,\"", "4@599");
        bench.dueJson(many + "1,9007199254740992", "4@599");
        bench.dueJson(many + "9007199254740992,1", "3@597");
        bench.dueJson(many + "[]]", "0@-1");
        bench.dueJson(many + "[[]]]", "4@598");
        bench.dueJson(many + "[x", "1@598");
        bench.dueJson(many + "{\"a\":{}}]", "4@602");
        bench.dueJson(many + "{\"a\"}]", "1@601");
        bench.dueJson("{\"a\":[" + Bench.repeat("1,", 297) + "1],\"b\":1}", "4@607");
        bench.dueJson("{\"a\":[" + Bench.repeat("1,", 297) + "1],\"a\":1}", "2@603");
        bench.dueJson("{\"a\":[" + Bench.repeat("1,", 297) + "1],\"b\":}", "1@607");
        PathHouse x = new PathHouse();
        Bench.json(x, many + "1]");
        bench.due("about(0)", x.about(0), 300);
    }

    private static void dueDepthLimit(Bench bench) {
        String deep = Bench.repeat("[", 30);
        bench.dueJson(deep + Bench.repeat("]", 30), "0@-1");
        bench.dueJson(deep + "[", "4@30");
        bench.dueJson(deep + "1", "4@30");
        bench.dueJson(deep + "n", "4@30");
        bench.dueJson(deep + " \"", "4@31");
        bench.dueJson(deep + "x", "1@30");
        bench.dueJson(deep + "}", "1@30");
        bench.dueJson(deep + Bench.repeat("]", 29), "1@59");
        bench.dueJson(Bench.repeat("[", 29) + "[],[],[1", "4@36");
        bench.dueJson(Bench.repeat("{\"a\":", 30), "1@150");
        bench.dueJson(Bench.repeat("{\"a\":", 30) + "1", "4@150");
        bench.dueJson(Bench.repeat("{\"a\":", 29) + "1" + Bench.repeat("}", 29), "0@-1");
        PathHouse x = new PathHouse();
        Bench.json(x, deep + Bench.repeat("]", 30));
        bench.due("about(0)", x.about(0), 30);
        bench.due("about(1)", x.about(1), 30);
    }

    // What stands on the TAPE behind the first n bytes is not looked at.
    private static void dueCut(Bench bench) {
        PathHouse x = new PathHouse();
        Bench.feed(x, Bench.utf8("\"\u00e9\""));
        bench.due("json(2)", x.json(2), 1);
        bench.due("fault(1)", x.fault(1), 1);
        Bench.feed(x, Bench.utf8("1234"));
        bench.due("json(2)", x.json(2), 0);
        Bench.query(x, "$");
        x.find();
        bench.due("number(0)", x.number(0), 12);
        Bench.feed(x, Bench.utf8("[1]"));
        bench.due("json(2)", x.json(2), 1);
        bench.due("fault(1)", x.fault(1), 2);
    }

    private static void dueKept(Bench bench) {
        PathHouse x = Bench.house("{\"a\":[1,2]}", "$.a[*]");
        bench.due("find()", x.find(), 2);
        bench.due("json with a fault", Bench.json(x, "[3,4"), 1);
        bench.due("about(0) behind a fault", x.about(0), 4);
        bench.due("about(5) behind a fault", x.about(5), 2);
        bench.due("paths behind a fault", Bench.paths(x), "['a'][0] ['a'][1]");
        bench.due("number(1) behind a fault", x.number(1), 2);
        bench.due("json(1) of an empty TAPE", x.json(1), PathHouse.NONE);
        bench.due("about(5) behind NONE", x.about(5), 2);
        bench.due("find() behind a fault", x.find(), 2);
        bench.due("json", Bench.json(x, "{\"a\":[7]}"), 0);
        bench.due("about(5) behind json", x.about(5), 0);
        bench.due("found(0, 0) behind json", x.found(0, 0), PathHouse.NONE);
        bench.due("find()", x.find(), 1);
        bench.due("number(0)", x.number(0), 7);
    }

    private static void dueLatest(Bench bench) {
        PathHouse x = new PathHouse();
        bench.due("json(-1)", x.json(-1), PathHouse.NONE);
        bench.due("fault(0) ahead of any", x.fault(0), PathHouse.NONE);
        Bench.json(x, "[1,x]");
        bench.due("fault(0)", x.fault(0), 1);
        bench.due("fault(1)", x.fault(1), 3);
        bench.due("fault(2)", x.fault(2), PathHouse.NONE);
        bench.due("fault(-1)", x.fault(-1), PathHouse.NONE);
        bench.due("json(21)", x.json(21), PathHouse.NONE);
        bench.due("query(-1)", x.query(-1), PathHouse.NONE);
        bench.due("json(" + Integer.MIN_VALUE + ")", x.json(Integer.MIN_VALUE), PathHouse.NONE);
        bench.due("fault(1) behind NONE", x.fault(1), 3);
        x.find();
        bench.due("fault(0) behind find()", x.fault(0), 1);
        Bench.query(x, "$[?f()]");
        bench.due("fault(0) of the query", x.fault(0), 2);
        bench.due("fault(1) of the query", x.fault(1), 3);
        Bench.json(x, "[1]");
        bench.due("fault(0) without", x.fault(0), 0);
        bench.due("fault(1) without", x.fault(1), PathHouse.NONE);
    }

    // Nothing of a text with a fault gets into the value ahead of it, or into the one behind it.
    private static void dueAnew(Bench bench) {
        PathHouse x = Bench.house("[1,[2]]", "$..*");
        bench.due("json with a fault", Bench.json(x, "[[[[7]]],8,9"), 1);
        bench.due("about(0)", x.about(0), 4);
        bench.due("about(1)", x.about(1), 3);
        bench.due("find()", x.find(), 3);
        bench.due("paths", Bench.paths(x), "[0] [1] [1][0]");
        bench.due("json", Bench.json(x, "[" + Bench.repeat("1,", 298) + "1]"), 0);
        bench.due("json with LIMIT", Bench.json(x, "[" + Bench.repeat("1,", 299) + "1]"), 4);
        bench.due("about(0)", x.about(0), 300);
        bench.due("json", Bench.json(x, "{\"a\":1}"), 0);
        bench.due("json", Bench.json(x, "{\"a\":2,\"b\":3}"), 0);
        bench.due("about(0)", x.about(0), 3);
        bench.due("find()", x.find(), 2);
        bench.due("paths", Bench.paths(x), "['a'] ['b']");
    }
}
