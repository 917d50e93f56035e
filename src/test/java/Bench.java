import java.nio.charset.StandardCharsets;
import java.util.Arrays;
import java.util.NoSuchElementException;

/** What the tests share: texts fed to a PathHouse, answers held against those that are due. */
final class Bench {
    private int calls;
    private int wrong;

    void due(String call, long got, long want) {
        due(call, Long.toString(got), Long.toString(want));
    }

    void due(String call, String got, String want) {
        calls++;
        if (!got.equals(want)) {
            wrong++;
            System.out.println(shortened(call) + " answered " + got + ", due is " + want);
        }
    }

    private static String shortened(String call) {
        return call.length() <= 200 ? call : call.substring(0, 100) + " .. " + call.substring(call.length() - 90);
    }

    void dueNoByte(PathHouse x, int i) {
        boolean thrown = false;
        try {
            x.out(i);
        } catch (NoSuchElementException e) {
            thrown = true;
        }
        due("out(" + i + ") throws", thrown ? 1 : 0, 1);
    }

    void end() {
        System.out.println(calls + " answers, " + wrong + " of them wrong");
        if (wrong > 0) {
            System.exit(1);
        }
    }

    /** Feeds the bytes, and x's behind them up to twenty. */
    static void feed(PathHouse x, byte[] bytes) {
        byte[] whole = Arrays.copyOf(bytes, (bytes.length + 19) / 20 * 20);
        Arrays.fill(whole, bytes.length, whole.length, (byte) 'x');
        for (int i = 0; i < whole.length; i += 20) {
            x.feed(four(whole, i), four(whole, i + 4), four(whole, i + 8), four(whole, i + 12), four(whole, i + 16));
        }
    }

    private static int four(byte[] b, int i) {
        return (b[i] & 255) << 24 | (b[i + 1] & 255) << 16 | (b[i + 2] & 255) << 8 | b[i + 3] & 255;
    }

    static byte[] utf8(String text) {
        return text.getBytes(StandardCharsets.UTF_8);
    }

    /** Each character is one byte: for texts that are no UTF-8. */
    static byte[] raw(String text) {
        return text.getBytes(StandardCharsets.ISO_8859_1);
    }

    static int json(PathHouse x, byte[] bytes) {
        feed(x, bytes);
        return x.json(bytes.length);
    }

    static int json(PathHouse x, String text) {
        return json(x, utf8(text));
    }

    static int query(PathHouse x, byte[] bytes) {
        feed(x, bytes);
        return x.query(bytes.length);
    }

    static int query(PathHouse x, String text) {
        return query(x, utf8(text));
    }

    static PathHouse house(String json, String query) {
        PathHouse x = new PathHouse();
        json(x, json);
        query(x, query);
        return x;
    }

    static String out(PathHouse x) {
        byte[] bytes = new byte[x.about(7)];
        for (int i = 0; i < bytes.length; i++) {
            bytes[i] = (byte) x.out(i);
        }
        return new String(bytes, StandardCharsets.UTF_8);
    }

    static String path(PathHouse x, int i) {
        return x.path(i) < 0 ? "none" : out(x);
    }

    static String text(PathHouse x, int i) {
        return x.text(i) < 0 ? "none" : out(x);
    }

    /** The normalized paths of all nodes, without their $, a blank between two. */
    static String paths(PathHouse x) {
        StringBuilder all = new StringBuilder();
        for (int i = 0; i < x.about(5); i++) {
            all.append(i == 0 ? "" : " ").append(path(x, i).substring(1));
        }
        return all.toString();
    }

    static String repeat(String text, int times) {
        return text.repeat(Math.max(0, times));
    }
}
