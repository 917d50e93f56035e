import java.util.ArrayList;
import java.util.HashMap;
import java.util.HashSet;
import java.util.List;
import java.util.Map;
import java.util.Set;

/**
 * The document's grammars as rules, and the first character with which no text goes on, by Earley's method: it holds all
 * that a text may be at once, so it shares nothing with the way in which PathHouse reads.
 */
final class Grammar {
    // Between two blanks: a name of other rules, 'signs' as they stand, or <a class of characters>.
    private static final String[] RULES = {
        "query = '$' segments",
        "segments = | segments S segment",
        "S = | S <blank>",
        "segment = brackets | '.*' | '.' name | '..' brackets | '..*' | '..' name",
        "brackets = '[' S selector selectors S ']'",
        "selectors = | selectors S ',' S selector",
        "selector = string | '*' | int | optional ':' S optional step | '?' S or",
        "optional = | int S",
        "step = | ':' | ':' S int",
        "int = '0' | <nonzero> digits | '-' <nonzero> digits",
        "digits = | digits <digit>",
        "number = int | '-0'",
        "name = <namefirst> | name <namemore>",
        "or = and | or S '||' S and",
        "and = basic | and S '&&' S basic",
        "basic = not '(' S or S ')' | comparable S op S comparable | not test",
        "not = | '!' S",
        "op = '==' | '!=' | '<=' | '>=' | '<' | '>'",
        "test = path | function",
        "path = '@' segments | '$' segments",
        "literal = number | string | 'true' | 'false' | 'null'",
        "comparable = literal | singular | function",
        "singular = '@' plains | '$' plains",
        "plains = | plains S plain",
        "plain = '.' name | '[' string ']' | '[' int ']'",
        "function = word '(' S arguments S ')'",
        "word = <small> | word <wordmore>",
        "arguments = | argument | several",
        "several = argument S ',' S argument | several S ',' S argument",
        "argument = literal | path | or | function",
        "string = double | <single> singles <single>",
        "double = '\"' doubles '\"'",
        "doubles = | doubles <indouble> | doubles '\\\"' | doubles '\\' escape",
        "singles = | singles <insingle> | singles '\\' <single> | singles '\\' escape",
        "escape = <escape> | 'u' code",
        "code = <hexnotd> <hex> <hex> <hex> | <hexd> <hex0to7> <hex> <hex>"
                + " | <hexd> <hex8tob> <hex> <hex> '\\u' <hexd> <hexctof> <hex> <hex>",
        "json = S value S",
        "value = 'null' | 'true' | 'false' | number | double | '[' S ']' | '[' S values S ']' | '{' S '}' | '{' S members S '}'",
        "values = value | values S ',' S value",
        "members = member | members S ',' S member",
        "member = double S ':' S value",
    };

    private final Map<String, List<String[]>> rules = new HashMap<>();
    private final Set<String> empty = new HashSet<>();

    /** A rule of which so much is done, begun at a place. */
    private record Item(String name, String[] signs, int done, int from) {
        Item next() {
            return new Item(name, signs, done + 1, from);
        }

        boolean ended() {
            return done == signs.length;
        }
    }

    Grammar() {
        for (String rule : RULES) {
            int at = rule.indexOf(" =");
            List<String[]> ways = new ArrayList<>();
            for (String way : (rule.substring(at + 2) + " ").split(" \\| ", -1)) {
                ways.add(signs(way.trim()));
            }
            rules.put(rule.substring(0, at), ways);
        }
        for (int again = 0; again < RULES.length; again++) {
            rules.forEach((name, ways) -> {
                if (ways.stream().anyMatch(way -> empty.containsAll(List.of(way)))) {
                    empty.add(name);
                }
            });
        }
    }

    private static String[] signs(String way) {
        List<String> all = new ArrayList<>();
        for (String part : way.isEmpty() ? new String[0] : way.split(" ")) {
            if (part.startsWith("'")) {
                for (int i = 1; i < part.length() - 1; i++) {
                    all.add("'" + part.charAt(i));
                }
            } else {
                all.add(part);
            }
        }
        return all.toArray(new String[0]);
    }

    /** The place of the first code point with which no text goes on; its count if the end is at fault; -1 without a fault. */
    int firstFault(String start, int[] text) {
        List<Map<String, List<Item>>> waits = new ArrayList<>();
        Set<Item> now = new HashSet<>();
        rules.get(start).forEach(way -> now.add(new Item(start, way, 0, 0)));
        Set<Item> items = closed(now, waits, 0);
        for (int i = 0; i < text.length; i++) {
            Set<Item> next = new HashSet<>();
            for (Item item : items) {
                if (!item.ended() && fits(item.signs[item.done], text[i])) {
                    next.add(item.next());
                }
            }
            if (next.isEmpty()) {
                return i;
            }
            items = closed(next, waits, i + 1);
        }
        boolean whole = items.stream().anyMatch(item -> item.name.equals(start) && item.ended() && item.from == 0);
        return whole ? -1 : text.length;
    }

    private Set<Item> closed(Set<Item> begun, List<Map<String, List<Item>>> waits, int place) {
        Set<Item> all = new HashSet<>(begun);
        List<Item> work = new ArrayList<>(begun);
        waits.add(new HashMap<>());
        while (!work.isEmpty()) {
            Item item = work.remove(work.size() - 1);
            List<Item> more = new ArrayList<>();
            if (item.ended()) {
                waits.get(item.from).getOrDefault(item.name, List.of()).forEach(w -> more.add(w.next()));
            } else if (rules.containsKey(item.signs[item.done])) {
                String name = item.signs[item.done];
                waits.get(place).computeIfAbsent(name, k -> new ArrayList<>()).add(item);
                rules.get(name).forEach(way -> more.add(new Item(name, way, 0, place)));
                if (empty.contains(name)) {
                    more.add(item.next());
                }
            }
            for (Item one : more) {
                if (all.add(one)) {
                    work.add(one);
                }
            }
        }
        return all;
    }

    private static boolean fits(String sign, int c) {
        if (sign.startsWith("'")) {
            return sign.charAt(1) == c;
        }
        switch (sign) {
            case "<blank>": return c == 9 || c == 10 || c == 13 || c == 32;
            case "<digit>": return c >= '0' && c <= '9';
            case "<nonzero>": return c >= '1' && c <= '9';
            case "<small>": return c >= 'a' && c <= 'z';
            case "<wordmore>": return c >= 'a' && c <= 'z' || c >= '0' && c <= '9' || c == '_';
            case "<namefirst>": return c >= 'a' && c <= 'z' || c >= 'A' && c <= 'Z' || c == '_' || c >= 128;
            case "<namemore>": return fits("<namefirst>", c) || fits("<digit>", c);
            case "<single>": return c == '\'';
            case "<indouble>": return c >= 32 && c != '"' && c != '\\';
            case "<insingle>": return c >= 32 && c != '\'' && c != '\\';
            case "<escape>": return "\\/bfnrt".indexOf(c) >= 0;
            case "<hex>": return "0123456789abcdefABCDEF".indexOf(c) >= 0;
            case "<hexd>": return c == 'd' || c == 'D';
            case "<hexnotd>": return fits("<hex>", c) && !fits("<hexd>", c);
            case "<hex0to7>": return c >= '0' && c <= '7';
            case "<hex8tob>": return "89abAB".indexOf(c) >= 0;
            case "<hexctof>": return "cdefCDEF".indexOf(c) >= 0;
            default: return false;
        }
    }
}
