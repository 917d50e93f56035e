import com.sun.management.ThreadMXBean;
import java.lang.management.ManagementFactory;

/**
 * What 512 calls make, in bytes: all calls of a run live in one room of some 600,000 objects and 7.3 million fields and elements.
 * An object takes 16 bytes at the least and an element one, so what stays under 7,000,000 bytes fits into it.
 */
public final class RoomTest {
    private static final long ROOM = 7000000;
    private static final java.lang.management.ThreadMXBean THREADS = ManagementFactory.getThreadMXBean();

    public static void main(String[] args) {
        Bench bench = new Bench();
        String ints = "[" + Bench.repeat("1,", 298) + "1]";
        due(bench, "values of 300 arrays", "[" + Bench.repeat("[],", 298) + "[]]", "$", 10, 1);
        due(bench, "values of 600 bytes", ints, "$", 14, 1);
        due(bench, "queries of 399 operands", "1", "$[?" + Bench.repeat("@||", 398) + "@]", 7, 1);
        due(bench, "queries of 600 selectors", "1", "$[" + Bench.repeat("0,", 598) + "0]", 7, 1);
        due(bench, "queries of 598 segments", "1", "$" + Bench.repeat(".a", 598), 7, 1);
        due(bench, "short queries", "[1]", "$[?@==1||@]", 80, 1);
        due(bench, "finds that are TIRED", ints, "$[?$[?$[?@==1]]]", 1, 230);
        due(bench, "finds of 897 nodes", ints, "$[*,*,*]", 1, 230);
        due(bench, "finds in 16 filters", "[[1]]", "$" + Bench.repeat("[?$", 16) + Bench.repeat("]", 16), 1, 230);
        bench.end();
    }

    // A Java machine that does not count what it makes tells 0: then there is nothing to hold against the room.
    private static long made() {
        return THREADS instanceof ThreadMXBean counter ? counter.getCurrentThreadAllocatedBytes() : 0;
    }

    private static int[] words(String text) {
        byte[] bytes = Bench.utf8(text + Bench.repeat(" ", 20 - (text.length() - 1) % 20 - 1));
        int[] words = new int[bytes.length / 4];
        for (int i = 0; i < bytes.length; i++) {
            words[i / 4] |= (bytes[i] & 255) << 24 - i % 4 * 8;
        }
        return words;
    }

    private static void feed(PathHouse x, int[] words) {
        for (int i = 0; i < words.length; i += 5) {
            x.feed(words[i], words[i + 1], words[i + 2], words[i + 3], words[i + 4]);
        }
    }

    private static void due(Bench bench, String what, String json, String query, int rounds, int finds) {
        int[] value = words(json);
        int[] asked = words(query);
        long before = made();
        PathHouse x = new PathHouse();
        for (int round = 0; round < rounds; round++) {
            feed(x, value);
            x.json(json.length());
            feed(x, asked);
            x.query(query.length());
            for (int i = 0; i < finds; i++) {
                x.find();
                x.path(0);
            }
        }
        long made = made() - before;
        bench.due(what + ": about(2)", x.about(2) == PathHouse.NONE ? 0 : 1, 1);
        bench.due(what + ": fit into the room (" + made + " bytes)", made < ROOM ? 1 : 0, 1);
    }
}
