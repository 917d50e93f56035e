import java.nio.charset.StandardCharsets;
import java.util.Arrays;
import java.util.NoSuchElementException;

/** What the tests share: texts fed to a PathHouse, answers held against those that are due. */
final class Bench {
    private int calls;
    private int wrong;
    private String sentence = "";

    /** The words of the document that the answers behind this are held against: a wrong answer is told with them. */
    void sentence(String words) {
        sentence = "\"" + words + "\": ";
    }

    void due(String call, long got, long want) {
        due(call, Long.toString(got), Long.toString(want));
    }

    void due(String call, String got, String want) {
        calls++;
        if (!got.equals(want)) {
            wrong++;
            System.out.println(sentence + shortened(call) + " answered " + shortened(got) + ", due is " + shortened(want));
        }
    }

    private static String shortened(String call) {
        return call.length() <= 200 ? call : call.substring(0, 100) + " .. " + call.substring(call.length() - 90);
    }

    /** A new object is given a VALUE's text; want is its FAULT and place: 1@0, and 0@-1 without. */
    void dueJson(String text, String want) {
        dueRead(true, utf8(text), text, want);
    }

    void dueRawJson(String bytes, String want) {
        dueRead(true, raw(bytes), bytes, want);
    }

    /** A new object is given a query; want is its FAULT and place: 1@0, and 0@-1 without. */
    void dueQuery(String text, String want) {
        dueRead(false, utf8(text), text, want);
    }

    void dueRawQuery(String bytes, String want) {
        dueRead(false, raw(bytes), bytes, want);
    }

    private void dueRead(boolean json, byte[] bytes, String text, String want) {
        PathHouse x = new PathHouse();
        int answer = json ? json(x, bytes) : query(x, bytes);
        due((json ? "json of " : "query of ") + text, answer + "@" + x.fault(1), want);
        due("fault(0) of " + text, x.fault(0), answer);
        due("whether it is kept: " + text, x.about(json ? 0 : 2) == PathHouse.NONE ? 0 : 1, answer == 0 ? 1 : 0);
        due("the TAPE behind " + text, x.about(6), 0);
    }

    /** Of all bytes the text goes on with those of 'more' alone: with any other one it has FORM at that byte. */
    void dueGoesOn(boolean json, String text, String more) {
        for (int b = 0; b < 256; b++) {
            String longer = text + (char) b;
            PathHouse x = new PathHouse();
            int fault = json ? json(x, raw(longer)) : query(x, raw(longer));
            boolean goesOn = fault != 1 || x.fault(1) != text.length();
            due((json ? "json of " : "query of ") + text + " and byte " + b + " goes on", goesOn ? 1 : 0, more.indexOf(b) >= 0 ? 1 : 0);
        }
    }

    /** A query's find() in a value: its answer and its LOOKS. */
    PathHouse dueFind(String json, String query, int answer, int looks) {
        PathHouse x = new PathHouse();
        String call = query + " in " + json;
        due("json of " + json, json(x, json), 0);
        due("query of " + query, query(x, query), 0);
        due(call + ": find()", x.find(), answer);
        due(call + ": about(4)", x.about(4), looks);
        due(call + ": about(5)", x.about(5), Math.max(0, answer));
        return x;
    }

    /** A query's nodes in a value: their normalized paths without the $, a blank between two; and the LOOKS. */
    void dueFound(String json, String query, String paths, int looks) {
        PathHouse x = new PathHouse();
        String call = query + " in " + json;
        due("json of " + json, json(x, json), 0);
        due("query of " + query, query(x, query), 0);
        due(call + ": find()", x.find(), x.about(5));
        due(call, paths(x), paths);
        due(call + ": LOOKS", x.about(4), looks);
    }

    /** Whether a filter is true of element 0 of an array that has no other one, and the LOOKS of it all. */
    void dueTrue(String element, String filter, boolean want, int looks) {
        dueFound("[" + element + "]", "$[?" + filter + "]", want ? "[0]" : "", looks);
    }

    void dueNoByte(PathHouse x, int i) {
        boolean thrown = false;
        try {
            x.out(i);
        } catch (NoSuchElementException e) {
            thrown = true;
        }
        due("out(" + i + ") throws", thrown ? 1 : 0, 1);
    }

    void end() {
        System.out.println(calls + " answers, " + wrong + " of them wrong");
        if (wrong > 0) {
            System.exit(1);
        }
    }

    /** Feeds the bytes, and x's behind them up to twenty. */
    static void feed(PathHouse x, byte[] bytes) {
        byte[] whole = Arrays.copyOf(bytes, (bytes.length + 19) / 20 * 20);
        Arrays.fill(whole, bytes.length, whole.length, (byte) 'x');
        for (int i = 0; i < whole.length; i += 20) {
            x.feed(four(whole, i), four(whole, i + 4), four(whole, i + 8), four(whole, i + 12), four(whole, i + 16));
        }
    }

    private static int four(byte[] b, int i) {
        return (b[i] & 255) << 24 | (b[i + 1] & 255) << 16 | (b[i + 2] & 255) << 8 | b[i + 3] & 255;
    }

    static byte[] utf8(String text) {
        return text.getBytes(StandardCharsets.UTF_8);
    }

    /** Each character is one byte: for texts that are no UTF-8. */
    static byte[] raw(String text) {
        return text.getBytes(StandardCharsets.ISO_8859_1);
    }

    static int json(PathHouse x, byte[] bytes) {
        feed(x, bytes);
        return x.json(bytes.length);
    }

    static int json(PathHouse x, String text) {
        return json(x, utf8(text));
    }

    static int query(PathHouse x, byte[] bytes) {
        feed(x, bytes);
        return x.query(bytes.length);
    }

    static int query(PathHouse x, String text) {
        return query(x, utf8(text));
    }

    static PathHouse house(String json, String query) {
        PathHouse x = new PathHouse();
        json(x, json);
        query(x, query);
        return x;
    }

    static String out(PathHouse x) {
        byte[] bytes = new byte[x.about(7)];
        for (int i = 0; i < bytes.length; i++) {
            bytes[i] = (byte) x.out(i);
        }
        return new String(bytes, StandardCharsets.UTF_8);
    }

    /** OUT of path(0) or text(0): an object is used for 512 calls alone, so each one tells a part of it. */
    static String longOut(String json, String query, boolean path) {
        byte[] bytes = new byte[0];
        for (int from = 0; from <= bytes.length; from += 250) {
            PathHouse x = house(json, query);
            x.find();
            bytes = Arrays.copyOf(bytes, path ? x.path(0) : x.text(0));
            for (int i = from; i < bytes.length && i < from + 250; i++) {
                bytes[i] = (byte) x.out(i);
            }
        }
        return new String(bytes, StandardCharsets.UTF_8);
    }

    static String path(PathHouse x, int i) {
        return x.path(i) < 0 ? "none" : out(x);
    }

    static String text(PathHouse x, int i) {
        return x.text(i) < 0 ? "none" : out(x);
    }

    /** The normalized paths of all nodes, without their $, a blank between two. */
    static String paths(PathHouse x) {
        StringBuilder all = new StringBuilder();
        for (int i = 0; i < x.about(5); i++) {
            all.append(i == 0 ? "" : " ").append(path(x, i).substring(1));
        }
        return all.toString();
    }

    static String repeat(String text, int times) {
        return text.repeat(Math.max(0, times));
    }
}
