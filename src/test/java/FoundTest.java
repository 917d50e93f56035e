/** Promises 7 and 8: found and number. */
public final class FoundTest {
    private static final String JSON = "{\"n\":null,\"f\":false,\"t\":true,\"i\":-12,\"s\":\"h\\u00e9\uD83D\uDE00\","
            + "\"a\":[4,[5,{\"x\":6}]],\"o\":{\"p\":[],\"q\":{}},\"e\":\"\",\"b\":9007199254740991,\"m\":-9007199254740991,\"z\":-0}";

    public static void main(String[] args) {
        Bench bench = new Bench();
        dueKinds(bench);
        duePlaces(bench);
        dueNumbers(bench);
        dueNone(bench);
        bench.end();
    }

    // The kind, how many, the steps, the last step, the number among all VALUES.
    private static void due(Bench bench, String query, String want) {
        PathHouse x = Bench.house(JSON, query);
        bench.due(query + ": find()", x.find(), 1);
        StringBuilder got = new StringBuilder();
        for (int what = 0; what <= 4; what++) {
            got.append(what == 0 ? "" : " ").append(x.found(0, what));
        }
        bench.due(query + ": found(0, 0 to 4)", got.toString(), want);
    }

    private static void dueKinds(Bench bench) {
        due(bench, "$", "6 11 0 -1 0");
        due(bench, "$.n", "0 0 1 -1 1");
        due(bench, "$.f", "1 0 1 -1 2");
        due(bench, "$.t", "2 0 1 -1 3");
        due(bench, "$.i", "3 0 1 -1 4");
        due(bench, "$.s", "4 3 1 -1 5");
        due(bench, "$.a", "5 2 1 -1 6");
        due(bench, "$.o", "6 2 1 -1 12");
        due(bench, "$.e", "4 0 1 -1 15");
        due(bench, "$.z", "3 0 1 -1 18");
    }

    private static void duePlaces(Bench bench) {
        due(bench, "$.a[0]", "3 0 2 0 7");
        due(bench, "$.a[1]", "5 2 2 1 8");
        due(bench, "$.a[-1][0]", "3 0 3 0 9");
        due(bench, "$.a[1][1]", "6 1 3 1 10");
        due(bench, "$.a[1][1].x", "3 0 4 -1 11");
        due(bench, "$.o.p", "5 0 2 -1 13");
        due(bench, "$.o.q", "6 0 2 -1 14");
        PathHouse x = Bench.house(Bench.repeat("[", 30) + Bench.repeat("]", 30), "$..*");
        bench.due("find()", x.find(), 29);
        bench.due("found(28, 2)", x.found(28, 2), 29);
        bench.due("found(28, 4)", x.found(28, 4), 29);
        PathHouse y = Bench.house("[" + Bench.repeat("1,", 298) + "1]", "$[298,0,298]");
        bench.due("find()", y.find(), 3);
        bench.due("found(0, 3)", y.found(0, 3), 298);
        bench.due("found(0, 4)", y.found(0, 4), 299);
        bench.due("found(1, 3)", y.found(1, 3), 0);
        bench.due("found(1, 4)", y.found(1, 4), 1);
        bench.due("found(2, 4)", y.found(2, 4), 299);
    }

    private static void dueNumbers(Bench bench) {
        PathHouse x = Bench.house(JSON, "$['i','b','m','z','s','n','t','a']");
        bench.due("find()", x.find(), 8);
        long[] want = {-12, 9007199254740991L, -9007199254740991L, 0, 0, 0, 0, 0};
        for (int i = 0; i < want.length; i++) {
            bench.due("number(" + i + ")", x.number(i), want[i]);
        }
        bench.due("number(8)", x.number(8), 0);
        bench.due("number(-1)", x.number(-1), 0);
        bench.due("number(" + Integer.MIN_VALUE + ")", x.number(Integer.MIN_VALUE), 0);
        bench.due("number(" + Integer.MAX_VALUE + ")", x.number(Integer.MAX_VALUE), 0);
    }

    private static void dueNone(Bench bench) {
        PathHouse x = Bench.house("[[1],2]", "$[*]");
        bench.due("found(0, 0) ahead of find()", x.found(0, 0), PathHouse.NONE);
        bench.due("find()", x.find(), 2);
        int[] places = {2, 3, 999, 1000, -1, Integer.MIN_VALUE, Integer.MAX_VALUE};
        for (int i : places) {
            for (int what = 0; what <= 4; what++) {
                bench.due("found(" + i + ", " + what + ")", x.found(i, what), PathHouse.NONE);
            }
        }
        Bench.query(x, "$[1]");
        bench.due("find()", x.find(), 1);
        bench.due("found(1, 0) behind fewer nodes", x.found(1, 0), PathHouse.NONE);
        bench.due("path(1) behind fewer nodes", x.path(1), PathHouse.NONE);
        bench.due("number(1) behind fewer nodes", x.number(1), 0);
        int[] whats = {5, 6, -1, Integer.MIN_VALUE, Integer.MAX_VALUE};
        for (int what : whats) {
            bench.due("found(0, " + what + ")", x.found(0, what), PathHouse.NONE);
        }
    }
}
