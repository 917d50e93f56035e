/** Promise 2: feed. */
public final class FeedTest {
    public static void main(String[] args) {
        Bench bench = new Bench();
        dueOrder(bench);
        dueBound(bench);
        dueEmptied(bench);
        bench.end();
    }

    // The twenty bytes come back as the text of a string: A to R between two quotes.
    private static void dueOrder(Bench bench) {
        PathHouse x = new PathHouse();
        bench.due("feed", x.feed(0x22414243, 0x44454647, 0x48494A4B, 0x4C4D4E4F, 0x50515222), 20);
        bench.due("about(6)", x.about(6), 20);
        bench.due("json(20)", x.json(20), 0);
        Bench.query(x, "$");
        x.find();
        bench.due("text(0)", Bench.text(x, 0), "\"ABCDEFGHIJKLMNOPQR\"");
        x.feed(0x22E99F9C, 0xF09F9880, 0xC3BFC3BF, 0xC3BFC3BF, 0xC3BFC322);
        bench.due("bytes from 128 on: json(20)", x.json(20), 1);
        bench.due("bytes from 128 on: fault(1)", x.fault(1), 18);
        x.feed(0x22E99F9C, 0xF09F9880, 0xC3BFC3BF, 0xC3BFC3BF, 0xC3BF7A22);
        bench.due("bytes from 128 on: json(20)", x.json(20), 0);
        x.find();
        bench.due("text(0)", Bench.text(x, 0), "\"\u97DC\uD83D\uDE00\u00FF\u00FF\u00FF\u00FF\u00FFz\"");
    }

    private static void dueBound(Bench bench) {
        PathHouse x = new PathHouse();
        for (int i = 1; i <= 60; i++) {
            bench.due("feed", x.feed(0x20202020, 0x20202020, 0x20202020, 0x20202020, i == 60 ? 0x20202037 : 0x20202020), 20 * i);
        }
        bench.due("feed of a full TAPE", x.feed(0, 0, 0, 0, 0), PathHouse.NONE);
        bench.due("feed of a full TAPE", x.feed(1, 2, 3, 4, 5), PathHouse.NONE);
        bench.due("about(6)", x.about(6), 1200);
        bench.due("json(1201)", x.json(1201), PathHouse.NONE);
        bench.due("json(1200)", x.json(1200), 0);
        bench.due("about(6)", x.about(6), 0);
        bench.due("about(0)", x.about(0), 1);
    }

    private static void dueEmptied(Bench bench) {
        PathHouse x = new PathHouse();
        x.feed(-1, -1, -1, -1, -1);
        x.feed(-1, -1, -1, -1, -1);
        bench.due("about(6)", x.about(6), 40);
        bench.due("json(-1)", x.json(-1), PathHouse.NONE);
        bench.due("query(41)", x.query(41), PathHouse.NONE);
        bench.due("about(6) behind NONE", x.about(6), 40);
        bench.due("query(3)", x.query(3), 1);
        bench.due("about(6) behind a fault", x.about(6), 0);
        bench.due("feed", x.feed(0x31202020, 0, 0, 0, 0), 20);
        bench.due("json(0)", x.json(0), 1);
        bench.due("fault(1)", x.fault(1), 0);
        bench.due("about(6) behind json(0)", x.about(6), 0);
        bench.due("feed", x.feed(0x31202020, 0, 0, 0, 0), 20);
        bench.due("json(1)", x.json(1), 0);
        bench.due("feed", x.feed(0x24202020, 0, 0, 0, 0), 20);
        bench.due("query(1)", x.query(1), 0);
        bench.due("about(6) behind a query", x.about(6), 0);
    }
}
