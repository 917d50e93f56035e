/** Promises 1 to 12: each sentence of a call that names an edge or a refusal. */
public final class EdgeCallsTest {
    private static final Bench BENCH = new Bench();
    private static final int NONE = PathHouse.NONE;
    private static final int[] FAR = {Integer.MIN_VALUE, Integer.MIN_VALUE + 1, -1000000, -2, -1, 1000000, Integer.MAX_VALUE - 1, Integer.MAX_VALUE};
    // One text for each FAULT of a VALUE, of a query.
    private static final String[] BAD_VALUES = {"[1,", "{\"a\":1,\"a\":2}", "9007199254740992", Bench.repeat("[", 31)};
    private static final String[] BAD_QUERIES = {"$.", "$[?f()]", "$[9007199254740992]", "$" + Bench.repeat("[?@", 17)};

    public static void main(String[] args) {
        dueNew();
        dueFeed();
        dueFeedRefused();
        dueFirstBytes();
        dueEmptied();
        dueNewValue();
        dueValueStays();
        dueNewQuery();
        dueQueryStays();
        dueRefused();
        dueFault();
        dueFind();
        dueFindWithout();
        dueFound();
        dueNumber();
        duePathAndText();
        dueOut();
        dueAbout();
        dueAboutLooks();
        BENCH.end();
    }

    /** All that can be asked of an object without a change: two objects in the same state tell the same. */
    private static String state(PathHouse x) {
        StringBuilder all = new StringBuilder();
        for (int what = 0; what < 8; what++) {
            all.append(x.about(what)).append(' ');
        }
        all.append(x.fault(0)).append('@').append(x.fault(1));
        for (int i = -1; i <= x.about(5); i++) {
            all.append(" (").append(x.number(i));
            for (int what = -1; what <= 5; what++) {
                all.append(' ').append(x.found(i, what));
            }
            all.append(')');
        }
        for (int i = 0; i < x.about(7); i++) {
            all.append(' ').append(x.out(i));
        }
        return all.toString();
    }

    private static PathHouse full() {
        PathHouse x = Bench.house("[1,[2,\"a\"]]", "$[*]");
        x.find();
        x.path(1);
        Bench.feed(x, Bench.utf8("[5]"));
        return x;
    }

    private static void dueNew() {
        BENCH.sentence("PathHouse(): No value, no query, an empty TAPE, an empty OUT");
        PathHouse x = new PathHouse();
        BENCH.due("the state", state(x), "-1 -1 -1 -1 0 0 0 0 -1@-1 (0 -1 -1 -1 -1 -1 -1 -1) (0 -1 -1 -1 -1 -1 -1 -1)");
        BENCH.due("find()", x.find(), NONE);
        BENCH.due("json(1)", x.json(1), NONE);
        BENCH.due("query(1)", x.query(1), NONE);
        BENCH.due("path(0)", x.path(0), NONE);
        BENCH.due("text(0)", x.text(0), NONE);
        BENCH.dueNoByte(x, 0);
        BENCH.due("the state", state(x), state(new PathHouse()));
        BENCH.due("json(0)", x.json(0), 1);
        BENCH.due("query(0)", x.query(0), 1);
    }

    // The twenty bytes are told by where the FAULT of them is, one after the other.
    private static void dueFeed() {
        BENCH.sentence("Twenty bytes come behind the TAPE, of each number the highest first: how many it has");
        for (int i = 0; i < 18; i++) {
            int[] words = {0x22414141, 0x41414141, 0x41414141, 0x41414141, 0x41414122};
            int at = i + 1;
            words[at / 4] = words[at / 4] & ~(255 << 24 - at % 4 * 8) | 31 << 24 - at % 4 * 8;
            PathHouse x = new PathHouse();
            BENCH.due("feed", x.feed(words[0], words[1], words[2], words[3], words[4]), 20);
            BENCH.due("json(20)", x.json(20), 1);
            BENCH.due("fault(1)", x.fault(1), at);
        }
        PathHouse x = new PathHouse();
        BENCH.due("feed", x.feed(0x22000000 | 0x303132, 0x33343536, 0x3738393A, 0x3B3C3D3E, 0x3F404142), 20);
        BENCH.due("feed", x.feed(0x43444546, 0x4748494A, 0x4B4C4D4E, 0x4F505152, 0x53545522), 40);
        BENCH.due("json(40)", x.json(40), 0);
        Bench.query(x, "$");
        x.find();
        BENCH.due("text(0)", Bench.text(x, 0), "\"0123456789:;<=>?@ABCDEFGHIJKLMNOPQRSTU\"");
        // Numbers below 0 have bytes from 128 on.
        BENCH.due("feed", x.feed(0x22F09F98, 0x80C3A9C3, 0xBFEFBFBF, 0xF48FBFBF, 0xC2802220), 20);
        BENCH.due("json(20)", x.json(20), 0);
        x.find();
        BENCH.due("text(0)", Bench.text(x, 0), "\"\uD83D\uDE00\u00e9\u00ff\uFFFF\uDBFF\uDFFF\u0080\"");
    }

    private static void dueFeedRefused() {
        BENCH.sentence("NONE, and none comes, if there would be more than 1,200");
        PathHouse x = new PathHouse();
        for (int i = 1; i <= 60; i++) {
            BENCH.due("feed", x.feed(0x20202020, 0x20202020, 0x20202020, 0x20202020, i == 60 ? 0x20202037 : 0x20202020), 20 * i);
            BENCH.due("about(6)", x.about(6), 20 * i);
        }
        for (int i = 0; i < 3; i++) {
            BENCH.due("feed of a full TAPE", x.feed(0x78787878, 0x78787878, 0x78787878, 0x78787878, 0x78787878), NONE);
            BENCH.due("about(6)", x.about(6), 1200);
        }
        BENCH.due("json(1200)", x.json(1200), 0);
        Bench.query(x, "$");
        x.find();
        BENCH.due("number(0)", x.number(0), 7);
        BENCH.due("feed of the TAPE that is empty again", x.feed(0, 0, 0, 0, 0), 20);
    }

    private static void dueFirstBytes() {
        BENCH.sentence("The first n bytes of the TAPE");
        for (int n = 1; n <= 15; n++) {
            PathHouse x = new PathHouse();
            Bench.feed(x, Bench.utf8("123456789012345xxxxxxxxxxxxxxxxxxxxxxxxxx"));
            BENCH.due("json(" + n + ")", x.json(n), 0);
            Bench.query(x, "$");
            x.find();
            BENCH.due("number(0) behind json(" + n + ")", x.number(0), Long.parseLong("123456789012345".substring(0, n)));
            PathHouse y = new PathHouse();
            Bench.feed(y, Bench.utf8("$.a.a.a.a.a.a.a.a"));
            BENCH.due("query(" + n + ")", y.query(n), n % 2 == 1 ? 0 : 1);
            BENCH.due("about(2) behind query(" + n + ")", y.about(2), n % 2 == 1 ? n / 2 : NONE);
            BENCH.due("fault(1) behind query(" + n + ")", y.fault(1), n % 2 == 1 ? NONE : n);
        }
        // A character of which n leaves a part has no end, whatever stands behind on the TAPE.
        for (int n = 1; n <= 5; n++) {
            PathHouse cut = new PathHouse();
            Bench.feed(cut, Bench.utf8("\"\uD83D\uDE00\""));
            BENCH.due("json(" + n + ")", cut.json(n), 1);
            BENCH.due("fault(1) behind json(" + n + ")", cut.fault(1), n == 5 ? 5 : 1);
            Bench.feed(cut, Bench.utf8("$.\uD83D\uDE00"));
            BENCH.due("query(" + n + ")", cut.query(n), n == 1 ? 0 : 1);
            BENCH.due("fault(1) behind query(" + n + ")", cut.fault(1), n == 1 ? NONE : 2);
        }
        PathHouse x = new PathHouse();
        Bench.feed(x, Bench.utf8("7"));
        BENCH.due("json(0) of a TAPE with bytes", x.json(0), 1);
        BENCH.due("fault(1)", x.fault(1), 0);
        Bench.feed(x, Bench.utf8("$"));
        BENCH.due("query(0) of a TAPE with bytes", x.query(0), 1);
        BENCH.due("fault(1)", x.fault(1), 0);
    }

    private static void dueEmptied() {
        BENCH.sentence("(it is empty then)");
        for (int n = 0; n <= 40; n++) {
            PathHouse x = new PathHouse();
            Bench.feed(x, Bench.utf8("1                                       "));
            BENCH.due("json(" + n + ")", x.json(n), n == 0 ? 1 : 0);
            BENCH.due("about(6) behind json(" + n + ")", x.about(6), 0);
            BENCH.due("json(1) of the empty TAPE", x.json(1), NONE);
            PathHouse y = new PathHouse();
            Bench.feed(y, Bench.utf8("$                                       "));
            BENCH.due("query(" + n + ")", y.query(n), n == 1 ? 0 : 1);
            BENCH.due("about(6) behind query(" + n + ")", y.about(6), 0);
            BENCH.due("query(1) of the empty TAPE", y.query(1), NONE);
            BENCH.due("feed of the empty TAPE", y.feed(0x245B305D, 0, 0, 0, 0), 20);
            BENCH.due("query(4)", y.query(4), 0);
        }
    }

    private static void dueNewValue() {
        BENCH.sentence("json: 0, and it is the value, nothing is found");
        PathHouse x = full();
        String out = Bench.out(x);
        BENCH.due("json", Bench.json(new PathHouse(), "[5]"), 0);
        BENCH.due("json(3)", x.json(3), 0);
        BENCH.due("the state", state(x), "2 2 1 0 1 0 0 4 0@-1 (0 -1 -1 -1 -1 -1 -1 -1) (0 -1 -1 -1 -1 -1 -1 -1) 36 91 49 93");
        BENCH.due("OUT stays", Bench.out(x), out);
        BENCH.due("path(0)", x.path(0), NONE);
        BENCH.due("text(0)", x.text(0), NONE);
        BENCH.due("find()", x.find(), 1);
        BENCH.due("number(0)", x.number(0), 5);
        // The same text again is a new value as well.
        BENCH.due("json of the same text", Bench.json(x, "[5]"), 0);
        BENCH.due("about(5)", x.about(5), 0);
    }

    private static void dueValueStays() {
        BENCH.sentence("json: or its FAULT, and the value stays");
        for (int fault = 1; fault <= 4; fault++) {
            PathHouse x = full();
            String before = state(x);
            BENCH.due("json of " + BAD_VALUES[fault - 1], jsonBehind(x, BAD_VALUES[fault - 1]), fault);
            BENCH.due("fault(0)", x.fault(0), fault);
            BENCH.due("find()", x.find(), 2);
            BENCH.due("query", Bench.query(x, "$[1][0]"), 0);
            BENCH.due("find()", x.find(), 1);
            BENCH.due("number(0)", x.number(0), 2);
            PathHouse y = full();
            jsonBehind(y, BAD_VALUES[fault - 1]);
            BENCH.due("what was found, the value and OUT", kept(state(y)), kept(before));
            PathHouse z = new PathHouse();
            BENCH.due("json", Bench.json(z, BAD_VALUES[fault - 1]), fault);
            BENCH.due("about(0) where there was no value", z.about(0), NONE);
        }
    }

    /** The state without the TAPE and the FAULT. */
    private static String kept(String state) {
        String[] parts = state.split(" ");
        parts[6] = "";
        parts[8] = "";
        return String.join(" ", parts);
    }

    // The TAPE of full() is not empty: it is emptied by a query that is refused for its text.
    private static int jsonBehind(PathHouse x, String text) {
        x.query(0);
        return Bench.json(x, text);
    }

    private static int queryBehind(PathHouse x, String text) {
        x.json(0);
        return Bench.query(x, text);
    }

    private static void dueNewQuery() {
        BENCH.sentence("query: 0, and it is the query, nothing is found");
        PathHouse x = full();
        BENCH.due("query", queryBehind(x, "$[1]"), 0);
        BENCH.due("the state", state(x), "5 3 1 1 1 0 0 4 0@-1 (0 -1 -1 -1 -1 -1 -1 -1) (0 -1 -1 -1 -1 -1 -1 -1) 36 91 49 93");
        BENCH.due("path(0)", x.path(0), NONE);
        BENCH.due("find()", x.find(), 1);
        BENCH.due("found(0, 4)", x.found(0, 4), 2);
        BENCH.due("query of the same text", Bench.query(x, "$[1]"), 0);
        BENCH.due("about(5)", x.about(5), 0);
    }

    private static void dueQueryStays() {
        BENCH.sentence("query: or its FAULT, and the query stays");
        for (int fault = 1; fault <= 4; fault++) {
            PathHouse x = full();
            String before = state(x);
            BENCH.due("query of " + BAD_QUERIES[fault - 1], queryBehind(x, BAD_QUERIES[fault - 1]), fault);
            BENCH.due("fault(0)", x.fault(0), fault);
            BENCH.due("find()", x.find(), 2);
            BENCH.due("json", Bench.json(x, "[7,8,9]"), 0);
            BENCH.due("find()", x.find(), 3);
            PathHouse y = full();
            queryBehind(y, BAD_QUERIES[fault - 1]);
            BENCH.due("what was found, the query and OUT", kept(state(y)), kept(before));
            PathHouse z = new PathHouse();
            BENCH.due("query", Bench.query(z, BAD_QUERIES[fault - 1]), fault);
            BENCH.due("about(2) where there was no query", z.about(2), NONE);
        }
    }

    private static void dueRefused() {
        BENCH.sentence("NONE, doing nothing, if n is below 0 or more than there are");
        PathHouse x = full();
        String before = state(x);
        for (int n : FAR) {
            BENCH.due("json(" + n + ")", x.json(n), NONE);
            BENCH.due("query(" + n + ")", x.query(n), NONE);
        }
        for (int n = 21; n < 25; n++) {
            BENCH.due("json(" + n + ")", x.json(n), NONE);
            BENCH.due("query(" + n + ")", x.query(n), NONE);
        }
        BENCH.due("json(1200)", x.json(1200), NONE);
        BENCH.due("query(1200)", x.query(1200), NONE);
        BENCH.due("the state", state(x), before);
        BENCH.due("json(20)", x.json(20), 1);
        BENCH.due("fault(1)", x.fault(1), 3);
        PathHouse y = full();
        BENCH.due("json(21)", y.json(21), NONE);
        BENCH.due("json(3)", y.json(3), 0);
        BENCH.due("about(0)", y.about(0), 2);
        PathHouse z = new PathHouse();
        Bench.feed(z, Bench.utf8(Bench.repeat(" ", 1199) + "1"));
        BENCH.due("json(1201)", z.json(1201), NONE);
        BENCH.due("json(1200)", z.json(1200), 0);
    }

    private static void dueFault() {
        BENCH.sentence("Of the latest json() or query() that was not NONE, what 0: its FAULT (0 without), 1: the place (NONE without)");
        PathHouse x = new PathHouse();
        for (int fault = 1; fault <= 4; fault++) {
            int[] places = {3, 7, 0, 30};
            Bench.json(x, BAD_VALUES[fault - 1]);
            BENCH.due("fault(0)", x.fault(0), fault);
            BENCH.due("fault(1)", x.fault(1), places[fault - 1]);
            x.json(1);
            x.query(-1);
            x.find();
            BENCH.due("fault(0) behind NONE", x.fault(0), fault);
            BENCH.due("fault(1) behind NONE", x.fault(1), places[fault - 1]);
            Bench.query(x, "$");
            BENCH.due("fault(0) without", x.fault(0), 0);
            BENCH.due("fault(1) without", x.fault(1), NONE);
            int[] queryPlaces = {2, 3, 2, 50};
            Bench.query(x, BAD_QUERIES[fault - 1]);
            BENCH.due("fault(0)", x.fault(0), fault);
            BENCH.due("fault(1)", x.fault(1), queryPlaces[fault - 1]);
            Bench.json(x, "1");
            BENCH.due("fault(0) without", x.fault(0), 0);
            BENCH.due("fault(1) without", x.fault(1), NONE);
        }
        BENCH.sentence("NONE for others, and ahead of any");
        Bench.json(x, "[x");
        for (int what : FAR) {
            BENCH.due("fault(" + what + ")", x.fault(what), NONE);
        }
        BENCH.due("fault(2)", x.fault(2), NONE);
        PathHouse y = new PathHouse();
        y.json(1);
        y.query(-1);
        y.find();
        y.feed(0, 0, 0, 0, 0);
        BENCH.due("fault(0) ahead of any", y.fault(0), NONE);
        BENCH.due("fault(1) ahead of any", y.fault(1), NONE);
        y.json(0);
        BENCH.due("fault(0) behind json(0)", y.fault(0), 1);
        BENCH.due("fault(1) behind json(0)", y.fault(1), 0);
    }

    private static void dueFind() {
        BENCH.sentence("The query's nodes in the value are found: how many");
        BENCH.dueFind("[]", "$[*]", 0, 1);
        BENCH.dueFind("[]", "$", 1, 0);
        BENCH.dueFind("[" + Bench.repeat("1,", 249) + "1]", "$[*,*,*,*]", 1000, 4);
        PathHouse x = full();
        BENCH.due("find() again", x.find(), 2);
        BENCH.due("about(5)", x.about(5), 2);
        BENCH.sentence("TIRED, MANY: nothing is found");
        for (int why : new int[] {PathHouse.TIRED, PathHouse.MANY}) {
            PathHouse y = Bench.house("[" + Bench.repeat("1,", 259) + "1]", "$[0]");
            BENCH.due("find()", y.find(), 1);
            BENCH.due("text(0)", y.text(0), 1);
            Bench.query(y, why == PathHouse.MANY ? "$[*,*,*,*]" : "$[?$[?$[0]==0]]");
            for (int again = 0; again < 2; again++) {
                BENCH.due("find()", y.find(), why);
                BENCH.due("about(5)", y.about(5), 0);
                BENCH.due("found(0, 0)", y.found(0, 0), NONE);
                BENCH.due("found(0, 4)", y.found(0, 4), NONE);
                BENCH.due("number(0)", y.number(0), 0);
                BENCH.due("path(0)", y.path(0), NONE);
                BENCH.due("text(0)", y.text(0), NONE);
                BENCH.due("OUT", Bench.out(y), "1");
                BENCH.due("fault(0)", y.fault(0), 0);
                BENCH.due("about(2)", y.about(2), 1);
            }
            Bench.json(y, "[1]");
            BENCH.due("find() in another value", y.find() >= 0 ? 1 : 0, 1);
        }
    }

    private static void dueFindWithout() {
        BENCH.sentence("NONE, doing nothing, without a value or a query");
        PathHouse x = new PathHouse();
        BENCH.due("find()", x.find(), NONE);
        Bench.json(x, "[1]");
        Bench.query(x, "$[");
        Bench.feed(x, Bench.utf8("$"));
        String before = state(x);
        BENCH.due("find() without a query", x.find(), NONE);
        BENCH.due("the state", state(x), before);
        BENCH.due("query(1)", x.query(1), 0);
        BENCH.due("find()", x.find(), 1);
        PathHouse y = new PathHouse();
        Bench.query(y, "$");
        Bench.json(y, "[");
        Bench.feed(y, Bench.utf8("1"));
        before = state(y);
        BENCH.due("find() without a value", y.find(), NONE);
        BENCH.due("the state", state(y), before);
        BENCH.due("json(1)", y.json(1), 0);
        BENCH.due("find()", y.find(), 1);
    }

    // The kind, how many, the steps, the last step, the number.
    private static void dueFound() {
        BENCH.sentence("what 0: its kind: null 0, false 1, true 2, INT 3, string 4, array 5, object 6; 1: how many (0 of others); 2: how many steps; "
                + "3: its last step, if that is a number (else NONE, of the whole value, too); 4: its number among all VALUES");
        PathHouse x = Bench.house("[null,false,true,-7,\"\",\"\u00e9\\ud83d\\ude00\",[],[[9],8],{},{\"k\":[{\"l\":5}]}]", "$..*");
        BENCH.due("find()", x.find(), 16);
        String[] want = {"0 0 1 0 1", "1 0 1 1 2", "2 0 1 2 3", "3 0 1 3 4", "4 0 1 4 5", "4 2 1 5 6", "5 0 1 6 7", "5 2 1 7 8", "6 0 1 8 12",
            "6 1 1 9 13", "5 1 2 0 9", "3 0 2 1 11", "3 0 3 0 10", "5 1 2 -1 14", "6 1 3 0 15", "3 0 4 -1 16"};
        for (int i = 0; i < want.length; i++) {
            BENCH.due("found(" + i + ", 0 to 4)", five(x, i), want[i]);
        }
        String[] wholes = {"null", "0 0 0 -1 0", "false", "1 0 0 -1 0", "true", "2 0 0 -1 0", "5", "3 0 0 -1 0", "\"a\"", "4 1 0 -1 0", "[1]", "5 1 0 -1 0",
            "{\"a\":1}", "6 1 0 -1 0"};
        for (int i = 0; i + 1 < wholes.length; i += 2) {
            PathHouse y = Bench.house(wholes[i], "$");
            y.find();
            BENCH.due("found(0, 0 to 4) of " + wholes[i], five(y, 0), wholes[i + 1]);
        }
        BENCH.sentence("found: NONE if there is none such, or for others");
        for (int what = 0; what <= 4; what++) {
            BENCH.due("found(16, " + what + ")", x.found(16, what), NONE);
            BENCH.due("found(15, " + what + ") is one", x.found(15, what) == NONE && what != 3 ? 1 : 0, 0);
            for (int i : FAR) {
                BENCH.due("found(" + i + ", " + what + ")", x.found(i, what), NONE);
            }
        }
        for (int what : FAR) {
            BENCH.due("found(0, " + what + ")", x.found(0, what), NONE);
        }
        BENCH.due("found(0, 5)", x.found(0, 5), NONE);
        // Where fewer nodes are found than before, those behind them are gone.
        Bench.query(x, "$[0,1]");
        BENCH.due("find()", x.find(), 2);
        for (int i = 2; i < 18; i++) {
            BENCH.due("found(" + i + ", 0) behind fewer nodes", x.found(i, 0), NONE);
            BENCH.due("path(" + i + ") behind fewer nodes", x.path(i), NONE);
        }
    }

    private static String five(PathHouse x, int i) {
        return x.found(i, 0) + " " + x.found(i, 1) + " " + x.found(i, 2) + " " + x.found(i, 3) + " " + x.found(i, 4);
    }

    private static void dueNumber() {
        BENCH.sentence("The i-th node's INT; 0 of others, and if there is none such");
        PathHouse x = Bench.house("[5,null,true,false,\"7\",[8],{\"a\":9},-9007199254740991,9007199254740991,-0]", "$[*]");
        BENCH.due("number(0) ahead of find()", x.number(0), 0);
        BENCH.due("find()", x.find(), 10);
        long[] want = {5, 0, 0, 0, 0, 0, 0, -9007199254740991L, 9007199254740991L, 0, 0, 0};
        for (int i = 0; i < want.length; i++) {
            BENCH.due("number(" + i + ")", x.number(i), want[i]);
        }
        for (int i : FAR) {
            BENCH.due("number(" + i + ")", x.number(i), 0);
        }
    }

    private static void duePathAndText() {
        BENCH.sentence("OUT is the normalized path, the text of the i-th node: how many bytes. NONE (OUT stays) if there is none such");
        PathHouse x = Bench.house("{\"\u00e9\":[-1,\"\uD83D\uDE00\"]}", "$.*[*]");
        BENCH.due("path(0) ahead of find()", x.path(0), NONE);
        BENCH.due("text(0) ahead of find()", x.text(0), NONE);
        BENCH.due("find()", x.find(), 2);
        BENCH.due("path(1)", x.path(1), 10);
        BENCH.due("OUT", Bench.out(x), "$['\u00e9'][1]");
        BENCH.due("text(1)", x.text(1), 6);
        BENCH.due("OUT", Bench.out(x), "\"\uD83D\uDE00\"");
        BENCH.due("text(0)", x.text(0), 2);
        BENCH.due("OUT", Bench.out(x), "-1");
        for (int i : FAR) {
            BENCH.due("path(" + i + ")", x.path(i), NONE);
            BENCH.due("text(" + i + ")", x.text(i), NONE);
        }
        BENCH.due("path(2)", x.path(2), NONE);
        BENCH.due("text(2)", x.text(2), NONE);
        BENCH.due("OUT stays", Bench.out(x), "-1");
        BENCH.due("about(7)", x.about(7), 2);
        Bench.query(x, "$");
        BENCH.due("path(0) behind a query", x.path(0), NONE);
        BENCH.due("OUT stays", Bench.out(x), "-1");
        String name = "{\"" + Bench.repeat("'", 1194) + "\":1}";
        PathHouse y = Bench.house(name, "$.*");
        BENCH.due("find()", y.find(), 1);
        BENCH.due("the longest path(0)", y.path(0), 5 + 2 * 1194);
        BENCH.due("OUT", Bench.longOut(name, "$.*", true), "$['" + Bench.repeat("\\'", 1194) + "']");
        String longest = "\"" + Bench.repeat("\\\\", 599) + "\"";
        PathHouse z = Bench.house(longest, "$");
        BENCH.due("find()", z.find(), 1);
        BENCH.due("the longest text(0)", z.text(0), 1200);
        BENCH.due("OUT", Bench.longOut(longest, "$", false), longest);
    }

    private static void dueOut() {
        BENCH.sentence("Byte i of OUT (0 .. 255). NoSuchElementException if there is none such");
        PathHouse x = Bench.house("[\"\u007f\u0080\uDBFF\uDFFF\"]", "$[0]");
        BENCH.dueNoByte(x, 0);
        x.find();
        BENCH.dueNoByte(x, 0);
        BENCH.due("text(0)", x.text(0), 9);
        int[] want = {34, 127, 0xC2, 0x80, 0xF4, 0x8F, 0xBF, 0xBF, 34};
        for (int i = 0; i < want.length; i++) {
            BENCH.due("out(" + i + ")", x.out(i), want[i]);
        }
        BENCH.dueNoByte(x, 9);
        for (int i : FAR) {
            BENCH.dueNoByte(x, i);
        }
        BENCH.due("path(0)", x.path(0), 4);
        BENCH.due("out(3)", x.out(3), ']');
        BENCH.dueNoByte(x, 4);
        BENCH.dueNoByte(x, 8);
        BENCH.due("about(7) behind an exception", x.about(7), 4);
        BENCH.due("out(0) behind an exception", x.out(0), '$');
    }

    private static void dueAbout() {
        BENCH.sentence("0: VALUES of the value, 1: how many are within one another at most, 2: SEGMENTS of the query (those outside of filters), "
                + "3: whether it is SINGULAR (1)");
        PathHouse x = Bench.house("[[],[[1]],2]", "$.a[?@.b.c[0]==1]..e");
        BENCH.due("about(0)", x.about(0), 6);
        BENCH.due("about(1)", x.about(1), 4);
        BENCH.due("about(2)", x.about(2), 3);
        BENCH.due("about(3)", x.about(3), 0);
        Bench.query(x, "$");
        BENCH.due("about(2)", x.about(2), 0);
        BENCH.due("about(3)", x.about(3), 1);
        String[] singular = {".a", "['a']", "[\"a\"]", "[0]", "[-1]", " .a", " [0]", ".a['b'][0] .c"};
        for (String path : singular) {
            Bench.query(x, "$" + path);
            BENCH.due("about(3) of $" + path, x.about(3), 1);
        }
        String[] others = {".*", "..a", "..[0]", "[*]", "[0,0]", "['a','a']", "[ 0]", "[0 ]", "['a'\n]", "[:]", "[0:1]", "[?@]", ".a.*", ".*.a"};
        for (String path : others) {
            Bench.query(x, "$" + path);
            BENCH.due("about(3) of $" + path, x.about(3), 0);
        }
        BENCH.sentence("NONE for others; of 0 and 1 without a value, of 2 and 3 without a query");
        for (int what : FAR) {
            BENCH.due("about(" + what + ")", x.about(what), NONE);
        }
        BENCH.due("about(8)", x.about(8), NONE);
        PathHouse y = new PathHouse();
        Bench.query(y, "$.a");
        BENCH.due("the state without a value", state(y).substring(0, 15), "-1 -1 1 1 0 0 0");
        PathHouse z = new PathHouse();
        Bench.json(z, "[1]");
        BENCH.due("the state without a query", state(z).substring(0, 15), "2 2 -1 -1 0 0 0");
    }

    private static void dueAboutLooks() {
        BENCH.sentence("4: LOOKS of the latest find() that was not NONE (60,000 of one that was TIRED), 5: nodes found, 6: bytes of the TAPE, 7: bytes of OUT");
        PathHouse x = new PathHouse();
        BENCH.due("about(4) ahead of any find()", x.about(4), 0);
        x.find();
        BENCH.due("about(4) behind NONE", x.about(4), 0);
        Bench.json(x, "[" + Bench.repeat("1,", 259) + "1]");
        Bench.query(x, "$[0,1]");
        BENCH.due("about(4) ahead of any find()", x.about(4), 0);
        x.find();
        BENCH.due("about(4)", x.about(4), 2);
        BENCH.due("about(5)", x.about(5), 2);
        Bench.query(x, "$[?$[?$[0]==0]]");
        BENCH.due("about(4) behind a query", x.about(4), 2);
        BENCH.due("about(5) behind a query", x.about(5), 0);
        BENCH.due("find()", x.find(), PathHouse.TIRED);
        BENCH.due("about(4) of TIRED", x.about(4), 60000);
        BENCH.due("about(5) of TIRED", x.about(5), 0);
        Bench.query(x, "$[*,*,*,*]");
        BENCH.due("find()", x.find(), PathHouse.MANY);
        BENCH.due("about(4) of MANY", x.about(4), 4);
        Bench.json(x, "7");
        BENCH.due("about(4) behind json", x.about(4), 4);
        Bench.query(x, "$");
        BENCH.due("find()", x.find(), 1);
        BENCH.due("about(4)", x.about(4), 0);
        BENCH.due("about(5)", x.about(5), 1);
        BENCH.due("about(6)", x.about(6), 0);
        BENCH.due("about(7)", x.about(7), 0);
        x.feed(0, 0, 0, 0, 0);
        x.feed(0, 0, 0, 0, 0);
        x.path(0);
        BENCH.due("about(6)", x.about(6), 40);
        BENCH.due("about(7)", x.about(7), 1);
    }
}
