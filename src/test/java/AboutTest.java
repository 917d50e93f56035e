/** Promise 12: about. */
public final class AboutTest {
    public static void main(String[] args) {
        Bench bench = new Bench();
        dueValues(bench);
        dueQueries(bench);
        dueCounts(bench);
        dueOthers(bench);
        bench.end();
    }

    private static void dueValue(Bench bench, String json, int values, int deepest) {
        PathHouse x = new PathHouse();
        bench.due("json of " + json, Bench.json(x, json), 0);
        bench.due("about(0) of " + json, x.about(0), values);
        bench.due("about(1) of " + json, x.about(1), deepest);
    }

    private static void dueValues(Bench bench) {
        dueValue(bench, "1", 1, 1);
        dueValue(bench, "[]", 1, 1);
        dueValue(bench, "[1]", 2, 2);
        dueValue(bench, "{\"a\":{\"b\":[]}}", 3, 3);
        dueValue(bench, "[[[[]]],1,[[]]]", 7, 4);
        dueValue(bench, "[1,[2],{\"a\":[3,\"x\"]}]", 8, 4);
        dueValue(bench, "{\"a\":[5,3,{\"j\":4},{\"k\":6}],\"o\":{\"j j\":1,\"k.k\":{\"i\":{\"b\":2},\"a\":[1,2]}}}", 16, 5);
        PathHouse x = new PathHouse();
        Bench.json(x, "[1,2]");
        Bench.json(x, "[1,2,[3]");
        bench.due("about(0) behind a fault", x.about(0), 3);
        bench.due("about(1) behind a fault", x.about(1), 2);
        Bench.json(x, "7");
        bench.due("about(0) of the next value", x.about(0), 1);
        bench.due("about(1) of the next value", x.about(1), 1);
    }

    private static void dueQuery(Bench bench, String query, int segments, int singular) {
        PathHouse x = new PathHouse();
        bench.due("query of " + query, Bench.query(x, query), 0);
        bench.due("about(2) of " + query, x.about(2), segments);
        bench.due("about(3) of " + query, x.about(3), singular);
    }

    private static void dueQueries(Bench bench) {
        dueQuery(bench, "$", 0, 1);
        dueQuery(bench, "$.a", 1, 1);
        dueQuery(bench, "$ .a ['b'] [\"c\"] [0] [-1]", 5, 1);
        dueQuery(bench, "$.a.b[0]['x']", 4, 1);
        dueQuery(bench, "$.*", 1, 0);
        dueQuery(bench, "$[*]", 1, 0);
        dueQuery(bench, "$..a", 1, 0);
        dueQuery(bench, "$..*", 1, 0);
        dueQuery(bench, "$..[0]", 1, 0);
        dueQuery(bench, "$..['a']", 1, 0);
        dueQuery(bench, "$[0,1]", 1, 0);
        dueQuery(bench, "$['a','a']", 1, 0);
        dueQuery(bench, "$[:]", 1, 0);
        dueQuery(bench, "$[0:1]", 1, 0);
        dueQuery(bench, "$[ 0]", 1, 0);
        dueQuery(bench, "$[0 ]", 1, 0);
        dueQuery(bench, "$['a' ]", 1, 0);
        dueQuery(bench, "$[\t'a']", 1, 0);
        dueQuery(bench, "$[?@.a.b.c]", 1, 0);
        dueQuery(bench, "$.a[?@.b[?@.c]||$.d.e].f", 3, 0);
        dueQuery(bench, "$.a.*.b", 3, 0);
        dueQuery(bench, "$.*.a", 2, 0);
        dueQuery(bench, "$[?length(@.a.b)==1][0]", 2, 0);
        PathHouse x = new PathHouse();
        Bench.query(x, "$.a.b");
        Bench.query(x, "$.*.");
        bench.due("about(2) behind a fault", x.about(2), 2);
        bench.due("about(3) behind a fault", x.about(3), 1);
        bench.due("about(0) without a value", x.about(0), PathHouse.NONE);
        bench.due("about(1) without a value", x.about(1), PathHouse.NONE);
        PathHouse y = new PathHouse();
        Bench.json(y, "1");
        bench.due("about(2) without a query", y.about(2), PathHouse.NONE);
        bench.due("about(3) without a query", y.about(3), PathHouse.NONE);
    }

    private static void dueCounts(Bench bench) {
        PathHouse x = Bench.house("[1,2,3]", "$[*,0]");
        bench.due("about(4) ahead of find()", x.about(4), 0);
        bench.due("about(5) ahead of find()", x.about(5), 0);
        x.find();
        bench.due("about(4)", x.about(4), 2);
        bench.due("about(5)", x.about(5), 4);
        x.find();
        bench.due("about(4) of a second find()", x.about(4), 2);
        bench.due("about(5) of a second find()", x.about(5), 4);
        x.feed(0, 0, 0, 0, 0);
        bench.due("about(6)", x.about(6), 20);
        bench.due("about(7)", x.about(7), 0);
        x.text(3);
        bench.due("about(7)", x.about(7), 1);
        x.path(3);
        bench.due("about(7)", x.about(7), 4);
        Bench.query(x, "$.x");
        bench.due("about(4) behind a fault", x.about(4), 2);
        PathHouse y = Bench.house("[1,2,3]", "$[*,0]");
        y.find();
        Bench.query(y, "$");
        bench.due("about(4) behind a query", y.about(4), 2);
        bench.due("about(5) behind a query", y.about(5), 0);
        y.find();
        bench.due("about(4)", y.about(4), 0);
        bench.due("about(5)", y.about(5), 1);
    }

    private static void dueOthers(Bench bench) {
        PathHouse x = Bench.house("[1]", "$");
        x.find();
        int[] others = {8, 9, -1, -2, 100, Integer.MAX_VALUE, Integer.MIN_VALUE};
        for (int what : others) {
            bench.due("about(" + what + ")", x.about(what), PathHouse.NONE);
        }
    }
}
