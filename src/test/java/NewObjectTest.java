/** Promise 1: a new object has no value, no query, an empty TAPE and an empty OUT. */
public final class NewObjectTest {
    public static void main(String[] args) {
        Bench bench = new Bench();
        PathHouse x = new PathHouse();
        int[] abouts = {-1, -1, -1, -1, 0, 0, 0, 0};
        for (int what = 0; what < abouts.length; what++) {
            bench.due("about(" + what + ")", x.about(what), abouts[what]);
        }
        bench.due("find()", x.find(), PathHouse.NONE);
        bench.due("fault(0)", x.fault(0), PathHouse.NONE);
        bench.due("fault(1)", x.fault(1), PathHouse.NONE);
        bench.due("found(0, 0)", x.found(0, 0), PathHouse.NONE);
        bench.due("number(0)", x.number(0), 0);
        bench.due("path(0)", x.path(0), PathHouse.NONE);
        bench.due("text(0)", x.text(0), PathHouse.NONE);
        bench.due("json(1)", x.json(1), PathHouse.NONE);
        bench.due("query(1)", x.query(1), PathHouse.NONE);
        bench.dueNoByte(x, 0);
        bench.due("NONE", PathHouse.NONE, -1);
        bench.due("TIRED", PathHouse.TIRED, -3);
        bench.due("MANY", PathHouse.MANY, -4);
        dueApart(bench);
        bench.end();
    }

    private static void dueApart(Bench bench) {
        PathHouse used = Bench.house("[7]", "$[0]");
        PathHouse other = new PathHouse();
        used.find();
        used.path(0);
        Bench.feed(used, Bench.utf8("x"));
        bench.due("about(0) of another object", other.about(0), PathHouse.NONE);
        bench.due("about(5) of another object", other.about(5), 0);
        bench.due("about(6) of another object", other.about(6), 0);
        bench.due("about(7) of another object", other.about(7), 0);
    }
}
