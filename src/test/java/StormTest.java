import java.util.NoSuchElementException;
import java.util.Random;

/** Any calls with any arguments: nothing is thrown but by out, and every answer is one that the document has. */
public final class StormTest {
    private static final String SIGNS = "$@.[]()?*:,'\"\\ !&|<>=-019aelngthcouv{}\u00c3\u00a9\u0000\u00ff";
    private static final String[] STARTS = {"$[?", "$..", "$[", "[", "{\"a\":", "$", "$[?length(@)==", "[[1,2],{\"a\":[", ""};
    private static final int[] ODD = {Integer.MIN_VALUE, -2, -1, 0, 1, 2, 3, 4, 5, 6, 7, 8, 19, 20, 21, 999, 1000, Integer.MAX_VALUE};

    public static void main(String[] args) {
        Bench bench = new Bench();
        Random chance = new Random(512);
        for (int run = 0; run < 1500; run++) {
            PathHouse x = chance.nextBoolean() ? new PathHouse() : Bench.house("{\"a\":[1,{\"b\":\"c\"},[2,[3]]],\"d\":null}", "$..*");
            // Each of them makes six calls at the most, so that no object is asked more than 512 times.
            for (int call = 0; call < 80; call++) {
                String thrown = "nothing";
                try {
                    call(bench, x, chance);
                } catch (RuntimeException e) {
                    thrown = e.toString();
                }
                bench.due("run " + run + ", call " + call + " throws", thrown, "nothing");
            }
        }
        bench.end();
    }

    private static int odd(Random chance) {
        return ODD[chance.nextInt(ODD.length)];
    }

    private static void call(Bench bench, PathHouse x, Random chance) {
        int i = odd(chance);
        int what = odd(chance);
        switch (chance.nextInt(12)) {
            case 0:
                x.feed(chance.nextInt(), chance.nextInt(), 0, i, what);
                break;
            case 1:
                dueFault(bench, x, x.json(i));
                break;
            case 2:
                dueFault(bench, x, x.query(i));
                break;
            case 3:
                dueFault(bench, x, Bench.json(x, text(chance)));
                break;
            case 4:
                dueFault(bench, x, Bench.query(x, text(chance)));
                break;
            case 5:
            case 6:
                bench.due("find()", x.find() >= -4 ? 1 : 0, 1);
                break;
            case 7:
                dueNode(bench, x, i, x.found(i, what));
                break;
            case 8:
                bench.due("number", Math.abs(x.number(i)) <= 9007199254740991L ? 1 : 0, 1);
                break;
            case 9:
                dueOut(bench, x, chance.nextBoolean() ? x.path(i) : x.text(i));
                break;
            case 10:
                dueByte(bench, x, i);
                break;
            default:
                bench.due("about", x.about(what) >= -1 && x.about(what) <= 60000 ? 1 : 0, 1);
                break;
        }
    }

    private static byte[] text(Random chance) {
        StringBuilder all = new StringBuilder(STARTS[chance.nextInt(STARTS.length)]);
        for (int k = chance.nextInt(12); k > 0; k--) {
            all.append(SIGNS.charAt(chance.nextInt(SIGNS.length())));
        }
        return Bench.raw(all.toString());
    }

    private static void dueFault(Bench bench, PathHouse x, int answer) {
        if (answer != PathHouse.NONE) {
            bench.due("fault(0)", x.fault(0), answer);
            bench.due("fault(1) with or without", x.fault(1) >= 0 ? 1 : 0, answer == 0 ? 0 : 1);
            bench.due("about(6)", x.about(6), 0);
        }
    }

    private static void dueNode(Bench bench, PathHouse x, int i, int answer) {
        boolean there = i >= 0 && i < x.about(5);
        bench.due("found without a node", !there && answer != PathHouse.NONE ? 1 : 0, 0);
    }

    private static void dueOut(Bench bench, PathHouse x, int answer) {
        if (answer != PathHouse.NONE) {
            bench.due("about(7)", x.about(7), answer);
        }
    }

    private static void dueByte(Bench bench, PathHouse x, int i) {
        boolean there = i >= 0 && i < x.about(7);
        int b = -1;
        try {
            b = x.out(i);
        } catch (NoSuchElementException none) {
            bench.due("out throws", there ? 1 : 0, 0);
            return;
        }
        bench.due("out", there && b >= 0 && b <= 255 ? 1 : 0, 1);
    }
}
