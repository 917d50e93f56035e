/** Promise 6 at its bounds: TIRED, MANY, and what stands behind them. */
public final class BoundsTest {
    public static void main(String[] args) {
        Bench bench = new Bench();
        dueMany(bench);
        dueManyInFilters(bench);
        dueTired(bench);
        dueExactly(bench, 148, 148, 59999);
        dueExactly(bench, 149, 149, 60000);
        dueExactly(bench, 150, PathHouse.TIRED, 60000);
        dueFirstOfBoth(bench);
        dueForgotten(bench);
        dueWithout(bench);
        bench.end();
    }

    private static String ints(int n) {
        return "[" + Bench.repeat("1,", n - 1) + "1]";
    }

    private static void dueMany(Bench bench) {
        String four = Bench.repeat("*,", 3) + "*";
        bench.dueFind(ints(250), "$[" + four + "]", 1000, 4);
        bench.dueFind(ints(250), "$[" + four + ",0]", PathHouse.MANY, 5);
        bench.dueFind(ints(250), "$[" + four + ",'a']", 1000, 5);
        bench.dueFind(ints(251), "$[" + four + "]", PathHouse.MANY, 4);
        bench.dueFind(ints(250), "$[" + four + "][*]", 0, 1004);
        bench.dueFind(ints(250), "$[" + four + ",:1][*]", PathHouse.MANY, 5);
        bench.dueFind(ints(250), "$[" + four + ",?@]", PathHouse.MANY, 6);
        bench.dueFind("[" + ints(99) + "," + ints(99) + "]", "$..[*,*,*,*,*]", 1000, 201 * 6);
        bench.dueFind("[" + ints(99) + "," + ints(99) + "]", "$..[*,*,*,*,*,0]", PathHouse.MANY, 7 + 7 + 99 * 7 + 6);
        bench.dueFind(ints(200), "$[*,*,*,*,*].x", 0, 1005);
        PathHouse x = bench.dueFind(ints(250), "$[" + four + "]", 1000, 4);
        bench.due("found(999, 3)", x.found(999, 3), 249);
        bench.due("found(1000, 3)", x.found(1000, 3), PathHouse.NONE);
        bench.due("number(999)", x.number(999), 1);
    }

    private static void dueManyInFilters(Bench bench) {
        String five = "[" + Bench.repeat("*,", 4) + "*]";
        bench.dueFind(ints(200), "$[?count($" + five + ")==1000]", 200, 1 + 200 * (1 + 5 + 1));
        bench.dueFind(ints(201), "$[?count($" + five + ")==1000]", PathHouse.MANY, 1 + 1 + 5);
        bench.dueFind(ints(201), "$[?$" + five + "]", PathHouse.MANY, 1 + 1 + 5);
        bench.dueFind(ints(201), "$[?@||$" + five + "]", 201, 1 + 201);
        bench.dueFind(ints(201), "$[?value($" + five + ")==1]", PathHouse.MANY, 1 + 1 + 5);
        bench.dueFind(ints(201), "$[?!$" + five + "]", PathHouse.MANY, 1 + 1 + 5);
    }

    private static void dueTired(Bench bench) {
        // A filter asked of each of 245 INTS, 243 LOOKS for each: the OR, 241 asked selectors, the comparison.
        String asked = "count($[" + Bench.repeat("1,", 240) + "1])==241";
        bench.dueFind(ints(245), "$[?" + asked + "]", 245, 1 + 245 * 243);
        bench.dueFind(ints(247), "$[?" + asked + "]", PathHouse.TIRED, 60000);
        PathHouse x = bench.dueFind(ints(247), "$[?" + asked + "]", PathHouse.TIRED, 60000);
        bench.due("found(0, 0)", x.found(0, 0), PathHouse.NONE);
        bench.due("path(0)", x.path(0), PathHouse.NONE);
        bench.due("find() again", x.find(), PathHouse.TIRED);
        bench.due("about(4) again", x.about(4), 60000);
        Bench.query(x, "$[0]");
        bench.due("find() of another query", x.find(), 1);
        bench.due("about(4) of another query", x.about(4), 1);
    }

    // 1 + 150 * (1 + 398) = 59,851 LOOKS, and so many selectors behind the filter.
    private static void dueExactly(Bench bench, int more, int answer, int looks) {
        String most = "$[?count($[" + Bench.repeat("1,", 397) + "1])<0";
        bench.dueFind(ints(150), most + Bench.repeat(",9", more) + "]", answer, looks);
    }

    private static void dueFirstOfBoth(Bench bench) {
        String four = "$[" + Bench.repeat("*,", 3) + "*,";
        bench.dueFind(ints(250), four + "0,?count($[" + Bench.repeat("1,", 250) + "1])==1]", PathHouse.MANY, 5);
        bench.dueFind(ints(250), four + "?count($[" + Bench.repeat("1,", 250) + "1])==1,0]", PathHouse.TIRED, 60000);
    }

    private static void dueForgotten(Bench bench) {
        PathHouse x = Bench.house(ints(251), "$[0]");
        bench.due("find()", x.find(), 1);
        bench.due("path(0)", x.path(0), 4);
        Bench.query(x, "$[*,*,*,*]");
        bench.due("find()", x.find(), PathHouse.MANY);
        bench.due("about(5)", x.about(5), 0);
        bench.due("found(0, 0)", x.found(0, 0), PathHouse.NONE);
        bench.due("number(0)", x.number(0), 0);
        bench.due("text(0)", x.text(0), PathHouse.NONE);
        bench.due("OUT", Bench.out(x), "$[0]");
        Bench.json(x, "[5]");
        bench.due("about(4) stays", x.about(4), 4);
        bench.due("find() in another value", x.find(), 4);
        bench.due("number(3)", x.number(3), 5);
        bench.due("find() again", x.find(), 4);
        bench.due("about(5) again", x.about(5), 4);
    }

    private static void dueWithout(Bench bench) {
        PathHouse x = new PathHouse();
        Bench.query(x, "$");
        bench.due("find() without a value", x.find(), PathHouse.NONE);
        bench.due("about(4) without a value", x.about(4), 0);
        Bench.json(x, "[");
        bench.due("find() behind a fault", x.find(), PathHouse.NONE);
        PathHouse y = new PathHouse();
        Bench.json(y, "[1]");
        bench.due("find() without a query", y.find(), PathHouse.NONE);
        bench.due("about(5) without a query", y.about(5), 0);
        Bench.query(y, "$[*,0]");
        bench.due("find()", y.find(), 2);
        bench.due("about(4)", y.about(4), 2);
    }
}
