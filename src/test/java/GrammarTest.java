import java.util.Random;

/** Promises 3, 4 and 5: the place of FORM in changed texts is the one that the rules of the document tell. */
public final class GrammarTest {
    private static final String[] QUERIES = {
        "$.a['b'][0][-1].*[*]..c..[1,2]", "$[1:2:3, : :-1,::,5 :]", "$[?@.a==1&&!@.b||(@.c<='x')]", "$[?length(@.a)>=2]",
        "$[?count(@.*)!=value($..a)]", "$[?f(1,@.a,@==2,g(),!(@))==true]", "$ .a [ 'b' , \"c\" ] [ ? @ < null ]",
        "$['\\u0041\\ud83d\\ude00\\n\\'',\"\\\"\u00e9\"]", "$[?!(@[0]==@['x'].y) && 'a'<@.b]", "$[?@[?@[?@.a]]]",
        "$.\u00e9\uD83D\uDE00_1", "$[?true==false||null!=-0]", "$[?length(length('a'))==1]", "$[?@.a.*,?@..b , *]",
        "$[?f(length(@)&&@||1==1)]", "$[?@[ 0]||@['a' ]&&@[0:1]]",
    };
    private static final String[] VALUES = {
        "{\"a\":[1,-2,{\"b\":null}],\"c\":\"d\"}", "[true,false,null,0,-0,12]", " [ ] ", "{ }", "[ 1 , [ 2 ] ]",
        "\"\\u0041\\ud83d\\ude00\\n\\\"\\\\/\u00e9\"", "{\"\u00e9\":{\"x\":{}},\"y\":[[],[[]]]}", "-10", "[\"\\uD7ff\\uE000\"]",
    };
    private static final String SIGNS = "$@.[]()?*:,'\"\\ \n!&|<>=-_01239abcdeflnrtuxDAZ{}\u00e9\u007f\u001f/";

    public static void main(String[] args) {
        Bench bench = new Bench();
        Grammar grammar = new Grammar();
        Random chance = new Random(9535);
        for (String text : QUERIES) {
            due(bench, grammar, "query", text);
            for (int i = 0; i < 400; i++) {
                due(bench, grammar, "query", changed(text, chance));
            }
        }
        for (String text : VALUES) {
            due(bench, grammar, "json", text);
            for (int i = 0; i < 300; i++) {
                due(bench, grammar, "json", changed(text, chance));
            }
        }
        bench.end();
    }

    private static String changed(String text, Random chance) {
        StringBuilder all = new StringBuilder(text);
        for (int times = 1 + chance.nextInt(2); times > 0; times--) {
            int at = chance.nextInt(all.length() + 1);
            char sign = SIGNS.charAt(chance.nextInt(SIGNS.length()));
            switch (chance.nextInt(4)) {
                case 0:
                    all.insert(at, sign);
                    break;
                case 1:
                    all.setLength(at);
                    break;
                case 2:
                    all.replace(at, Math.min(all.length(), at + 1), String.valueOf(sign));
                    break;
                default:
                    all.delete(at, Math.min(all.length(), at + 1));
                    break;
            }
        }
        return all.toString();
    }

    // A text with half of a surrogate pair is no text at all: what Java makes of it is read instead.
    private static void due(Bench bench, Grammar grammar, String start, String changed) {
        String text = new String(Bench.utf8(changed), java.nio.charset.StandardCharsets.UTF_8);
        int place = grammar.firstFault(start, text.codePoints().toArray());
        PathHouse x = new PathHouse();
        int fault = start.equals("json") ? Bench.json(x, text) : Bench.query(x, text);
        if (place < 0) {
            bench.due(start + " of " + text + " has FORM", fault == 1 ? 1 : 0, 0);
        } else if (fault == 2 && start.equals("json")) {
            bench.due(start + " of " + text + ": NAME ahead of FORM", x.fault(1) < bytes(text, place) ? 1 : 0, 1);
        } else {
            bench.due(start + " of " + text, fault + "@" + x.fault(1), "1@" + bytes(text, place));
        }
    }

    private static int bytes(String text, int codePoints) {
        return Bench.utf8(text.substring(0, text.offsetByCodePoints(0, codePoints))).length;
    }
}
