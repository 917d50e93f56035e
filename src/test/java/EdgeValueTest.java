import java.nio.charset.StandardCharsets;
import java.util.Arrays;

/** Terms II: the bytes, and a VALUE's text with its FAULTS, each sentence at its edges. */
public final class EdgeValueTest {
    private static final Bench BENCH = new Bench();
    private static final String B = "\t\n\r ";
    private static final String DIGITS = "0123456789";
    private static final String HEX = "0123456789abcdefABCDEF";
    private static final String BEGINS = B + DIGITS + "-\"[{ntf";

    public static void main(String[] args) {
        dueUtf8();
        dueUtf8Edges();
        dueCharacters();
        dueBlanks();
        dueWords();
        dueInts();
        dueStrings();
        dueSurrogates();
        dueArrays();
        dueObjects();
        dueNames();
        dueRange();
        dueFirstFault();
        BENCH.end();
    }

    private static String fromTo(int first, int last) {
        StringBuilder all = new StringBuilder();
        for (int c = first; c <= last; c++) {
            all.append((char) c);
        }
        return all.toString();
    }

    // Java's own decoder tells what is UTF-8: a character's bytes are those that come back as they went in.
    private static int charBytes(byte[] bytes, int from) {
        for (int n = 1; n <= 4 && from + n <= bytes.length; n++) {
            byte[] some = Arrays.copyOfRange(bytes, from, from + n);
            String text = new String(some, StandardCharsets.UTF_8);
            if (text.codePointCount(0, text.length()) == 1 && Arrays.equals(Bench.utf8(text), some)) {
                return n;
            }
        }
        return 0;
    }

    private static void dueBytes(String bytes) {
        byte[] inside = Bench.raw(bytes);
        int at = 0;
        while (at < inside.length && charBytes(inside, at) > 0) {
            at += charBytes(inside, at);
        }
        String want = at == inside.length ? "0@-1" : "1@";
        PathHouse x = new PathHouse();
        int fault = Bench.json(x, Bench.raw("\"" + bytes + "\""));
        BENCH.due("json of the bytes " + Arrays.toString(inside), fault + "@" + x.fault(1), want.length() > 2 ? want : want + (1 + at));
        PathHouse y = new PathHouse();
        fault = Bench.query(y, Bench.raw("$['" + bytes + "']"));
        BENCH.due("query of the bytes " + Arrays.toString(inside), fault + "@" + y.fault(1), want.length() > 2 ? want : want + (3 + at));
    }

    private static void dueUtf8() {
        BENCH.sentence("BYTES are UTF-8 (no more bytes than needed, no surrogates, up to 10FFFF)");
        String edges = "\u007f\u0080\u008f\u0090\u009f\u00a0\u00bf\u00c0";
        for (char lead = 128; lead < 256; lead++) {
            dueBytes(String.valueOf(lead));
            for (int i = 0; i < 512; i++) {
                String rest = "" + edges.charAt(i & 7) + edges.charAt(i >> 3 & 7) + edges.charAt(i >> 6);
                if (i < 8) {
                    dueBytes(lead + rest.substring(0, 1));
                }
                if (i < 64) {
                    dueBytes(lead + rest.substring(0, 2));
                }
                if (lead >= 0xF0 || i % 7 == 0) {
                    dueBytes(lead + rest);
                }
            }
        }
    }

    private static void dueUtf8Edges() {
        String[] whole = {"\u00c2\u0080", "\u00df\u00bf", "\u00e0\u00a0\u0080", "\u00ed\u009f\u00bf", "\u00ee\u0080\u0080",
            "\u00ef\u00bf\u00bf", "\u00f0\u0090\u0080\u0080", "\u00f4\u008f\u00bf\u00bf"};
        String[] none = {"\u00c0\u0080", "\u00c1\u00bf", "\u00e0\u0080\u0080", "\u00e0\u009f\u00bf", "\u00ed\u00a0\u0080",
            "\u00ed\u00bf\u00bf", "\u00f0\u0080\u0080\u0080", "\u00f0\u008f\u00bf\u00bf", "\u00f4\u0090\u0080\u0080",
            "\u00f7\u00bf\u00bf\u00bf", "\u00f8\u0090\u0080\u0080", "\u00f8\u0088\u0080\u0080\u0080", "\u00bf\u0080", "\u0080",
            "\u00ff", "\u00c3\u007f", "\u00c3\u00c0"};
        for (String bytes : whole) {
            BENCH.dueRawJson("\"" + bytes + "\"", "0@-1");
            BENCH.dueRawJson("{\"" + bytes + "\":1}", "0@-1");
        }
        for (String bytes : none) {
            BENCH.dueRawJson("\"" + bytes + "\"", "1@1");
            BENCH.dueRawJson("\"\u00c3\u00a9" + bytes + "\"", "1@3");
            BENCH.dueRawJson("{\"a" + bytes + "\":1}", "1@3");
        }
        BENCH.sentence("bytes that are no UTF-8 at the first one of the character");
        BENCH.dueRawJson("\"ab\u00e2\u0082", "1@3");
        BENCH.dueRawJson("\"ab\u00e2\u0082\"", "1@3");
        BENCH.dueRawJson("\"ab\u00f0\u009f\u0098x\"", "1@3");
        BENCH.dueRawJson("\"ab\u00c3", "1@3");
    }

    private static void dueCharacters() {
        BENCH.sentence("a CHARACTER is a code point");
        String[] texts = {"\"\"", "0", "\"a\"", "1", "\"\u00e9\"", "1", "\"e\u0301\"", "2", "\"\uD83D\uDE00\"", "1",
            "\"\\ud83d\\ude00\"", "1", "\"\\uD83D\\uDE00\uD83D\uDE00\\u0000\\n\"", "4", "\"\\uffff\\ud800\\udc00\"", "2",
            "\"\\udbff\\udfff\"", "1"};
        for (int i = 0; i + 1 < texts.length; i += 2) {
            PathHouse x = Bench.house(texts[i], "$");
            x.find();
            BENCH.due("found(0, 1) of " + texts[i], Integer.toString(x.found(0, 1)), texts[i + 1]);
        }
    }

    private static void dueBlanks() {
        BENCH.sentence("B: 9, 10, 13, 32; S: any number of them");
        // S may stand in each place of _.
        String[] places = {"_1_", "_[_]_", "_[_1_,_2_]_", "_{_}_", "_{_\"a\"_:_1_,_\"b\"_:_[_]_}_"};
        for (String text : places) {
            BENCH.dueJson(text.replace("_", ""), "0@-1");
            BENCH.dueJson(text.replace("_", "\t\n\r "), "0@-1");
            for (int at = text.indexOf('_'); at >= 0; at = text.indexOf('_', at + 1)) {
                String head = text.substring(0, at).replace("_", "");
                String tail = text.substring(at + 1).replace("_", "");
                for (int b = 0; b <= 32; b++) {
                    BENCH.dueRawJson(head + (char) b + tail, B.indexOf(b) >= 0 ? "0@-1" : "1@" + head.length());
                }
                for (char b : new char[] {127, 0x85, 0xA0, 0xE2, 0xFE}) {
                    BENCH.dueRawJson(head + b + tail, "1@" + head.length());
                }
                BENCH.dueJson(head + Bench.repeat(" ", 1200 - head.length() - tail.length()) + tail, "0@-1");
            }
        }
        for (String text : new String[] {"n_ull", "tru_e", "-_1", "1_2", "\"\\_n\"", "\"\\u0_041\""}) {
            BENCH.dueJson(text.replace("_", " "), "1@" + (text.startsWith("1") ? 2 : text.indexOf('_')));
        }
    }

    private static void dueWords() {
        BENCH.sentence("value: null, true, false");
        BENCH.dueGoesOn(true, "", BEGINS);
        BENCH.dueGoesOn(true, " ", BEGINS);
        for (String word : new String[] {"null", "true", "false"}) {
            BENCH.dueJson(word, "0@-1");
            for (int n = 1; n < word.length(); n++) {
                BENCH.dueJson(word.substring(0, n), "1@" + n);
                BENCH.dueGoesOn(true, word.substring(0, n), word.substring(n, n + 1));
            }
            BENCH.dueGoesOn(true, word, B);
        }
    }

    private static void dueInts() {
        BENCH.sentence("an INT: 0, -0 (which is 0), or [-] digits without a 0 ahead");
        BENCH.dueGoesOn(true, "-", DIGITS);
        BENCH.dueGoesOn(true, "0", B);
        BENCH.dueGoesOn(true, "-0", B);
        BENCH.dueGoesOn(true, "1", B + DIGITS);
        BENCH.dueGoesOn(true, "-9", B + DIGITS);
        BENCH.dueGoesOn(true, "10", B + DIGITS);
        BENCH.dueJson("-", "1@1");
        String[] texts = {"0", "-0", "1", "-1", "9", "-9", "10", "-10", "100200300"};
        for (String text : texts) {
            PathHouse x = Bench.house("[" + text + "]", "$[0]");
            BENCH.due("find() of " + text, x.find(), 1);
            BENCH.due("number(0) of " + text, x.number(0), Long.parseLong(text));
            BENCH.due("text(0) of " + text, Bench.text(x, 0), Long.toString(Long.parseLong(text)));
        }
        BENCH.dueTrue("-0", "@==0&&@==-0&&@<=0&&@>=-0", true, 1 + 1 + 4);
    }

    private static void dueStrings() {
        BENCH.sentence("a string between \" and \": characters from 32 on but \" and \\, or \\ and one of \" \\ / b f n r t or u and "
                + "four hexadecimal digits");
        String inside = fromTo(32, 127);
        BENCH.dueGoesOn(true, "\"", inside);
        BENCH.dueGoesOn(true, "\"a", inside);
        BENCH.dueGoesOn(true, "\"a\"", B);
        BENCH.dueGoesOn(true, "\"\\", "\"\\/bfnrtu");
        for (char sign : "\"\\/bfnrt".toCharArray()) {
            BENCH.dueGoesOn(true, "\"\\" + sign, inside);
        }
        for (String some : new String[] {"\"\\u", "\"\\u0", "\"\\uF", "\"\\u00", "\"\\ufF", "\"\\u004", "\"\\uA9a"}) {
            BENCH.dueGoesOn(true, some, HEX);
        }
        BENCH.dueGoesOn(true, "\"\\u0041", inside);
        String[] same = {"\"\\u00aF\"", "\u00af", "\"\\u0Ab1\"", "\u0ab1", "\"\\uFFFF\"", "\uffff", "\"\\u9990\"", "\u9990",
            "\"\\/\"", "/", "\"/\"", "/", "\"\\u002f\"", "/", "\"\u007f\"", "\u007f"};
        for (int i = 0; i + 1 < same.length; i += 2) {
            PathHouse x = Bench.house(same[i], "$");
            x.find();
            BENCH.due("text(0) of " + same[i], Bench.text(x, 0), "\"" + same[i + 1] + "\"");
        }
    }

    private static void dueSurrogates() {
        BENCH.sentence("(a surrogate: a high one, with a low one, likewise told, right behind it)");
        for (String d : new String[] {"d", "D"}) {
            BENCH.dueGoesOn(true, "\"\\u" + d, "0123456789abAB");
            BENCH.dueGoesOn(true, "\"\\ud83d\\u" + d, "cdefCDEF");
        }
        BENCH.dueGoesOn(true, "\"\\ud7", HEX);
        BENCH.dueGoesOn(true, "\"\\ud8", HEX);
        BENCH.dueGoesOn(true, "\"\\udb", HEX);
        BENCH.dueGoesOn(true, "\"\\ud7ff", fromTo(32, 127));
        BENCH.dueGoesOn(true, "\"\\ue000", fromTo(32, 127));
        for (String high : new String[] {"\"\\ud800", "\"\\uDBFF", "\"\\ud83d"}) {
            BENCH.dueGoesOn(true, high, "\\");
            BENCH.dueGoesOn(true, high + "\\", "u");
            BENCH.dueGoesOn(true, high + "\\u", "dD");
            BENCH.dueGoesOn(true, high + "\\udc", HEX);
            BENCH.dueGoesOn(true, high + "\\uDF", HEX);
            BENCH.dueGoesOn(true, high + "\\udc0", HEX);
            BENCH.dueGoesOn(true, high + "\\udc00", fromTo(32, 127));
        }
        BENCH.dueJson("\"\\ud800\\udc00\"", "0@-1");
        BENCH.dueJson("\"\\udbff\\udfff\"", "0@-1");
        BENCH.dueJson("\"\\udc00\"", "1@4");
        BENCH.dueJson("\"\\udfff\"", "1@4");
        BENCH.dueRawJson("\"\\ud83d\u00ed\u00b8\u0080\"", "1@7");
        BENCH.dueJson("\"\\ud83d\"", "1@7");
    }

    private static void dueArrays() {
        BENCH.sentence("[ S ] or [ S value { S , S value } S ]");
        BENCH.dueGoesOn(true, "[", BEGINS + "]");
        BENCH.dueGoesOn(true, "[ ", BEGINS + "]");
        BENCH.dueGoesOn(true, "[]", B);
        for (String value : new String[] {"null", "0", "\"a\"", "[]", "{}", "[1]", "1 ", "{\"a\":1}"}) {
            BENCH.dueGoesOn(true, "[" + value, B + ",]");
            BENCH.dueGoesOn(true, "[" + value + ",", BEGINS);
            BENCH.dueGoesOn(true, "[" + value + ", ", BEGINS);
            BENCH.dueGoesOn(true, "[1," + value, B + ",]");
        }
        BENCH.dueGoesOn(true, "[1]", B);
        BENCH.dueGoesOn(true, "[[1]", B + ",]");
    }

    private static void dueObjects() {
        BENCH.sentence("{ S } or { S member { S , S member } S }, member: a string S : S value");
        BENCH.dueGoesOn(true, "{", B + "\"}");
        BENCH.dueGoesOn(true, "{ ", B + "\"}");
        BENCH.dueGoesOn(true, "{}", B);
        BENCH.dueGoesOn(true, "{\"a\"", B + ":");
        BENCH.dueGoesOn(true, "{\"a\" ", B + ":");
        BENCH.dueGoesOn(true, "{\"a\":", BEGINS);
        BENCH.dueGoesOn(true, "{\"a\": ", BEGINS);
        for (String value : new String[] {"null", "0", "\"a\"", "[]", "{}", "[1]", "1 ", "{\"a\":1}"}) {
            BENCH.dueGoesOn(true, "{\"a\":" + value, B + ",}");
            BENCH.dueGoesOn(true, "{\"a\":" + value + ",", B + "\"");
            BENCH.dueGoesOn(true, "{\"a\":" + value + ",\"b\"", B + ":");
        }
        BENCH.dueGoesOn(true, "{\"a\":1}", B);
        BENCH.dueGoesOn(true, "[{\"a\":1}", B + ",]");
    }

    private static void dueNames() {
        BENCH.sentence("No name (by its characters) twice in an object");
        BENCH.dueJson("{\"\":1,\"\":2}", "2@6");
        BENCH.dueJson("{\"a\":1, \"\\u0061\":2}", "2@8");
        BENCH.dueJson("{\"\\u0061\":1,\"a\":2}", "2@12");
        BENCH.dueJson("{\"\\n\":1,\"\\u000A\":2}", "2@8");
        BENCH.dueJson("{\"\uD83D\uDE00\":1,\"\\uD83D\\uDE00\":2}", "2@10");
        BENCH.dueJson("{\"a\":1,\"b\":2,\"c\":3,\"a\":4}", "2@19");
        BENCH.dueJson("{\"a\":1,\"b\":2,\"c\":3,\"c\":4}", "2@19");
        BENCH.dueJson("{\"a\":1,\"A\":2,\"aa\":3,\"\":4,\" a\":5,\"a \":6}", "0@-1");
        BENCH.dueJson("{\"\u00e9\":1,\"e\u0301\":2}", "0@-1");
        BENCH.dueJson("{\"a\":{\"a\":{\"a\":1}}}", "0@-1");
        BENCH.dueJson("[{\"a\":1},{\"a\":1}]", "0@-1");
        BENCH.dueJson("{\"a\":{\"b\":1,\"c\":2},\"b\":1,\"c\":2}", "0@-1");
        BENCH.dueJson("{\"a\":{\"b\":1,\"c\":2},\"b\":1,\"a\":2}", "2@25");
        BENCH.dueJson("{\"b\":{\"a\":1,\"a\":1}}", "2@12");
        BENCH.dueJson("{\"a\":\"b\",\"b\":\"a\"}", "0@-1");
    }

    private static void dueRange() {
        BENCH.sentence("INTS from -9007199254740991 to 9007199254740991");
        BENCH.dueJson("9007199254740991", "0@-1");
        BENCH.dueJson("-9007199254740991", "0@-1");
        BENCH.dueJson("9007199254740992", "3@0");
        BENCH.dueJson("-9007199254740992", "3@0");
        BENCH.dueJson("9223372036854775807", "3@0");
        BENCH.dueJson("9223372036854775808", "3@0");
        BENCH.dueJson("-9223372036854775809", "3@0");
        BENCH.dueJson("18446744073709551616", "3@0");
        BENCH.dueJson("18446744073709551617", "3@0");
        BENCH.dueJson("1" + Bench.repeat("0", 1199), "3@0");
        BENCH.dueJson("-" + Bench.repeat("9", 1199), "3@0");
        BENCH.dueJson("[0, -9007199254740992]", "3@4");
        BENCH.dueJson("{\"a\": 9007199254740992 }", "3@6");
        PathHouse x = Bench.house("[9007199254740991,-9007199254740991]", "$[*]");
        x.find();
        BENCH.due("number(0)", x.number(0), 9007199254740991L);
        BENCH.due("number(1)", x.number(1), -9007199254740991L);
    }

    private static void dueFirstFault() {
        BENCH.sentence("the first byte with which no text goes on (the end: its place)");
        for (String text : new String[] {"", " ", "[", "[1", "[1,", "{", "{\"a\"", "{\"a\":", "{\"a\":1", "{\"a\":1,", "\"", "\"\\", "-", "nul"}) {
            BENCH.dueJson(text, "1@" + text.length());
            BENCH.dueJson(" [ " + text, "1@" + (3 + text.length()));
        }
        BENCH.sentence("2 and 3 when the string, the INT has ended: whatever stands behind");
        BENCH.dueJson("{\"a\":1,\"a\"", "2@7");
        BENCH.dueJson("{\"a\":1,\"a\"x", "2@7");
        BENCH.dueJson("{\"a\":1,\"a\":9007199254740992}", "2@7");
        BENCH.dueJson("{\"a\":1,\"a", "1@9");
        BENCH.dueJson("{\"a\":1,\"a\n\":1}", "1@9");
        BENCH.dueJson("{\"a\":1,\"a\\\"", "1@11");
        BENCH.dueRawJson("{\"a\":1,\"a\u00ff\":1}", "1@9");
        BENCH.dueJson("[9007199254740992", "3@1");
        BENCH.dueJson("[9007199254740992x", "3@1");
        BENCH.dueJson("[9007199254740992.5]", "3@1");
        BENCH.dueJson("[9007199254740992,9007199254740992", "3@1");
        BENCH.dueJson("{\"a\":9007199254740992,\"a\":1}", "3@5");
        BENCH.sentence("The first one from the left is told");
        BENCH.dueJson("[x,9007199254740992]", "1@1");
        BENCH.dueJson("[09007199254740992]", "1@2");
        String full = "[" + Bench.repeat("1,", 299);
        BENCH.dueJson(full + "9007199254740992]", "4@599");
        BENCH.dueJson(full + "\"\u0001\"]", "4@599");
        BENCH.dueJson(full + "nix", "4@599");
        BENCH.dueJson(full.substring(0, full.length() - 2) + "9007199254740992,1]", "3@597");
        BENCH.dueJson(full.substring(0, full.length() - 2) + "1;1]", "1@598");
        BENCH.dueJson("{\"b\":" + full.substring(0, full.length() - 4) + "1],\"b\":1}", "2@603");
        BENCH.dueJson("{\"b\":" + full.substring(0, full.length() - 4) + "1],\"c\":1}", "4@607");
        BENCH.sentence("where no VALUE can begin it is 1, not 4");
        BENCH.dueJson(full, "1@599");
        BENCH.dueGoesOn(true, full, BEGINS);
        BENCH.dueGoesOn(true, Bench.repeat("[", 30), BEGINS + "]");
        BENCH.dueGoesOn(true, Bench.repeat("{\"a\":", 30), BEGINS);
        BENCH.dueJson(full + "+", "1@599");
        BENCH.dueJson(full + " ]", "1@600");
        BENCH.dueJson(Bench.repeat("[", 30) + "\t]" + Bench.repeat("]", 29), "0@-1");
        BENCH.dueJson(Bench.repeat("[", 30) + "\t\"", "4@31");
        BENCH.sentence("LIMIT: a VALUE that is one too many, or too deep (at its first byte)");
        for (String first : new String[] {"n", "t", "f", "0", "9", "-", "\"", "[", "{"}) {
            BENCH.dueJson(full + first, "4@599");
            BENCH.dueJson(full + "\r\n" + first, "4@601");
            BENCH.dueJson(Bench.repeat("[", 30) + first, "4@30");
            BENCH.dueJson(Bench.repeat("{\"a\":", 30) + " " + first, "4@151");
        }
    }
}
