import java.util.ArrayList;
import java.util.Arrays;
import java.util.NoSuchElementException;

/** Paths into a value of JSON, after RFC 9535, for whole numbers and without match() and search(). */
public final class PathHouse {
    public static final int NONE = -1;
    public static final int TIRED = -3;
    public static final int MANY = -4;

    private static final int TAPE_BYTES = 1200;
    private static final int FEED_BYTES = 20;
    private static final int MOST_VALUES = 300;
    private static final int MOST_DEPTH = 30;
    private static final int MOST_OPEN = 16;
    private static final int MOST_NODES = 1000;
    private static final int MOST_LOOKS = 60000;
    private static final long GREATEST = 9007199254740991L;

    // A step takes at most twice the bytes in a path that it takes in the value's text.
    private static final int OUT_BYTES = 2 * TAPE_BYTES;

    private static final int FORM = 1;
    private static final int NAME = 2;
    private static final int TYPE = 2;
    private static final int RANGE = 3;
    private static final int LIMIT = 4;

    private static final int NULL = 0;
    private static final int FALSE = 1;
    private static final int TRUE = 2;
    private static final int INT = 3;
    private static final int STRING = 4;
    private static final int ARRAY = 5;
    private static final int OBJECT = 6;

    private final byte[] tape = new byte[TAPE_BYTES];
    private final Reader reader = new Reader(tape);
    private final ValueReader valueReader = new ValueReader(reader);
    private final QueryReader queryReader = new QueryReader(reader);
    private final Finder finder = new Finder();
    private final Out written = new Out();
    private int taped;
    private boolean hasRead;
    private Node value;
    private Path asked;

    public PathHouse() {
    }

    public int feed(int a, int b, int c, int d, int e) {
        if (taped + FEED_BYTES > TAPE_BYTES) {
            return NONE;
        }
        tapeFour(a);
        tapeFour(b);
        tapeFour(c);
        tapeFour(d);
        tapeFour(e);
        return taped;
    }

    public int json(int n) {
        if (!begin(n)) {
            return NONE;
        }
        try {
            value = valueReader.whole();
        } catch (IllegalArgumentException faulty) {
            return reader.fault;
        }
        finder.forget();
        return 0;
    }

    public int query(int n) {
        if (!begin(n)) {
            return NONE;
        }
        try {
            asked = queryReader.whole();
        } catch (IllegalArgumentException faulty) {
            return reader.fault;
        }
        finder.forget();
        return 0;
    }

    public int fault(int what) {
        if (!hasRead) {
            return NONE;
        }
        switch (what) {
            case 0:
                return reader.fault;
            case 1:
                return reader.place;
            default:
                return NONE;
        }
    }

    public int find() {
        if (value == null || asked == null) {
            return NONE;
        }
        return finder.run(asked, value);
    }

    public int found(int i, int what) {
        Node node = finder.result(i);
        if (node == null) {
            return NONE;
        }
        switch (what) {
            case 0:
                return node.kind;
            case 1:
                return node.size();
            case 2:
                return node.depth - 1;
            case 3:
                return node.index;
            case 4:
                return node.order;
            default:
                return NONE;
        }
    }

    public long number(int i) {
        Node node = finder.result(i);
        return node == null ? 0 : node.whole;
    }

    public int path(int i) {
        Node node = finder.result(i);
        if (node == null) {
            return NONE;
        }
        written.clear();
        written.putSteps(node, MOST_DEPTH);
        return written.count;
    }

    public int text(int i) {
        Node node = finder.result(i);
        if (node == null) {
            return NONE;
        }
        written.clear();
        written.putValue(node, MOST_DEPTH);
        return written.count;
    }

    public int out(int i) throws NoSuchElementException {
        if (!written.has(i)) {
            throw new NoSuchElementException("OUT has no such byte");
        }
        return written.get(i);
    }

    public int about(int what) {
        switch (what) {
            case 0:
                return value == null ? NONE : value.last + 1;
            case 1:
                return value == null ? NONE : value.deepest();
            case 2:
                return asked == null ? NONE : asked.segments.size();
            case 3:
                return asked == null ? NONE : asked.singular ? 1 : 0;
            case 4:
                return finder.looks;
            case 5:
                return finder.results();
            case 6:
                return taped;
            case 7:
                return written.count;
            default:
                return NONE;
        }
    }

    private void tapeFour(int four) {
        for (int shift = 24; shift >= 0 && taped < TAPE_BYTES; shift -= 8) {
            tape[taped] = (byte) (four >> shift);
            taped++;
        }
    }

    private boolean begin(int n) {
        if (n < 0 || n > taped) {
            return false;
        }
        reader.begin(n);
        taped = 0;
        hasRead = true;
        return true;
    }

    private static boolean isDigit(int b) {
        return b >= '0' && b <= '9';
    }

    private static boolean isSmall(int b) {
        return b >= 'a' && b <= 'z';
    }

    private static boolean isLetter(int b) {
        return isSmall(b) || b >= 'A' && b <= 'Z';
    }

    private static boolean isBeyond(long whole) {
        return whole > GREATEST || whole < -GREATEST;
    }

    private static boolean sameChars(int[] a, int[] b) {
        if (a == null || b == null || a.length != b.length) {
            return false;
        }
        for (int k = 0; k < a.length; k++) {
            if (a[k] != b[k]) {
                return false;
            }
        }
        return true;
    }

    private static boolean charsBefore(int[] a, int[] b) {
        if (a == null || b == null) {
            return false;
        }
        int both = Math.min(a.length, b.length);
        for (int k = 0; k < both; k++) {
            if (a[k] != b[k]) {
                return a[k] < b[k];
            }
        }
        return a.length < b.length;
    }

    /** A VALUE: one in its place in the whole one, or one by itself that a query tells or reckons. */
    private static final class Node {
        private final int kind;
        private final Node parent;
        private final int depth;
        private final int order;
        private final ArrayList<Node> kids;
        private long whole;
        private int[] chars;
        private int[] name;
        private int index = NONE;
        // The VALUES from order to last are this one and all below it; next is the one that begins behind.
        private int last;
        private Node next;

        private Node(int kind, Node parent, int depth, int order) {
            this.kind = kind;
            this.parent = parent;
            this.depth = depth;
            this.order = order;
            this.last = order;
            this.kids = kind == ARRAY || kind == OBJECT ? new ArrayList<Node>() : null;
        }

        private int kidCount() {
            return kids == null ? 0 : kids.size();
        }

        private Node kid(long i) {
            return kids == null || i < 0 || i >= kids.size() ? null : kids.get((int) i);
        }

        private int size() {
            return chars != null ? chars.length : kidCount();
        }

        private void adopt(Node kid, int[] kidName) {
            if (kids == null || kid == null) {
                return;
            }
            kid.name = kidName;
            if (kind == ARRAY) {
                kid.index = kids.size();
            }
            kids.add(kid);
        }

        private Node member(int[] wanted) {
            if (kind != OBJECT || kids == null) {
                return null;
            }
            for (int k = 0; k < kids.size(); k++) {
                Node kid = kids.get(k);
                if (sameChars(kid.name, wanted)) {
                    return kid;
                }
            }
            return null;
        }

        private Node element(long told) {
            if (kind != ARRAY) {
                return null;
            }
            return kid(told < 0 ? told + kidCount() : told);
        }

        private int deepest() {
            int most = 0;
            for (Node node = this; node != null && node.order <= last; node = node.next) {
                most = Math.max(most, node.depth);
            }
            return most;
        }
    }

    /** The text that is read, the place that is reached in it, and its fault. */
    private static final class Reader {
        private static final int END = -1;
        private final byte[] bytes;
        private final int[] chars = new int[TAPE_BYTES];
        private int charCount;
        private int end;
        private int at;
        private int fault;
        private int place = NONE;

        private Reader(byte[] bytes) {
            this.bytes = bytes;
        }

        private void begin(int length) {
            end = Math.min(length, bytes.length);
            at = 0;
            fault = 0;
            place = NONE;
        }

        // Unwinds the reading at once: no rule of a grammar has to look whether one below it failed.
        private void fail(int which, int where) {
            fault = which;
            place = where;
            throw new IllegalArgumentException("the text has a fault");
        }

        private int byteAt(int i) {
            return i >= 0 && i < end && i < bytes.length ? bytes[i] & 255 : END;
        }

        private int here() {
            return at >= 0 && at < end && at < bytes.length ? bytes[at] & 255 : END;
        }

        private boolean isBlank() {
            int b = here();
            return b == ' ' || b == '\t' || b == '\n' || b == '\r';
        }

        private void skipBlanks() {
            while (at < end && isBlank()) {
                at++;
            }
        }

        private void expect(int b) {
            if (here() != b) {
                fail(FORM, at);
            }
            at++;
        }

        private void expectWord(String word) {
            for (int k = 0; k < word.length(); k++) {
                expect(word.charAt(k));
            }
        }

        private boolean isWord(int from, int behind, String word) {
            if (behind - from != word.length()) {
                return false;
            }
            for (int k = 0; k < word.length(); k++) {
                if (byteAt(from + k) != word.charAt(k)) {
                    return false;
                }
            }
            return true;
        }

        private boolean takeComma() {
            skipBlanks();
            if (here() != ',') {
                return false;
            }
            at++;
            skipBlanks();
            return true;
        }

        // An INT too great stays just beyond the range, so that any number of digits fits.
        private long wholeNumber(boolean minusZero) {
            boolean minus = here() == '-';
            if (minus) {
                at++;
            }
            int first = here();
            if (!isDigit(first) || first == '0' && minus && !minusZero) {
                fail(FORM, at);
            }
            if (first == '0') {
                at++;
                return 0;
            }
            long whole = 0;
            while (at < end && isDigit(here())) {
                whole = Math.min(whole * 10 + (here() - '0'), GREATEST + 1);
                at++;
            }
            return minus ? -whole : whole;
        }

        private void keep(int code) {
            if (charCount < chars.length) {
                chars[charCount] = code;
                charCount++;
            }
        }

        private int[] kept() {
            return Arrays.copyOf(chars, charCount);
        }

        // The quote ahead is the one that ends the string, and the only one that may stand behind a \.
        private int[] string() {
            int quote = here();
            charCount = 0;
            at++;
            for (int k = 0; k < end && here() != quote; k++) {
                if (here() < ' ') {
                    fail(FORM, at);
                }
                keep(here() == '\\' ? escaped(quote) : codePoint());
            }
            expect(quote);
            return kept();
        }

        private int[] plainName() {
            charCount = 0;
            for (int k = 0; k < end && isNamed(here(), k > 0); k++) {
                keep(codePoint());
            }
            if (charCount == 0) {
                fail(FORM, at);
            }
            return kept();
        }

        private static boolean isNamed(int b, boolean digitToo) {
            return isLetter(b) || b == '_' || b >= 128 || digitToo && isDigit(b);
        }

        private int escaped(int quote) {
            at++;
            int b = here();
            int code = b == quote || b == '\\' || b == '/' ? b : control(b);
            if (code < 0 && b != 'u') {
                fail(FORM, at);
            }
            at++;
            if (b != 'u') {
                return code;
            }
            code = hexFour(false);
            if (code < 0xD800 || code > 0xDBFF) {
                return code;
            }
            expect('\\');
            expect('u');
            return 0x10000 + ((code & 0x3FF) << 10) + (hexFour(true) & 0x3FF);
        }

        private static int control(int b) {
            switch (b) {
                case 'b':
                    return 8;
                case 'f':
                    return 12;
                case 'n':
                    return 10;
                case 'r':
                    return 13;
                case 't':
                    return 9;
                default:
                    return NONE;
            }
        }

        // A low surrogate is told by its first two digits: where it is due or refused, the second one is at fault.
        private int hexFour(boolean low) {
            int code = 0;
            for (int k = 0; k < 4; k++) {
                int digit = hexValue(here());
                code = code << 4 | digit;
                boolean fits = k == 0 ? !low || digit == 13 : k > 1 || low == (code >= 0xDC && code <= 0xDF);
                if (digit < 0 || !fits) {
                    fail(FORM, at);
                }
                at++;
            }
            return code;
        }

        private static int hexValue(int b) {
            if (b >= '0' && b <= '9') {
                return b - '0';
            }
            if (b >= 'a' && b <= 'f') {
                return b - 'a' + 10;
            }
            return b >= 'A' && b <= 'F' ? b - 'A' + 10 : NONE;
        }

        private int codePoint() {
            int lead = here();
            int more = followers(lead);
            int code = more > 0 ? lead & (63 >> more) : lead;
            boolean good = more >= 0;
            for (int k = 1; k <= more; k++) {
                int b = byteAt(at + k);
                good = good && b >= 128 && b < 192;
                code = code << 6 | (b & 63);
            }
            if (!good || !isShortest(code, more)) {
                fail(FORM, at);
            }
            at += 1 + more;
            return code;
        }

        private static int followers(int lead) {
            if (lead >= 0 && lead < 128) {
                return 0;
            }
            if (lead >= 192 && lead < 224) {
                return 1;
            }
            if (lead >= 224 && lead < 240) {
                return 2;
            }
            return lead >= 240 && lead < 248 ? 3 : NONE;
        }

        private static boolean isShortest(int code, int more) {
            switch (more) {
                case 1:
                    return code >= 0x80;
                case 2:
                    return code >= 0x800 && (code < 0xD800 || code > 0xDFFF);
                case 3:
                    return code >= 0x10000 && code <= 0x10FFFF;
                default:
                    return true;
            }
        }
    }

    /** Reads a VALUE's text. */
    private static final class ValueReader {
        private final Reader in;
        private int count;
        private Node latest;

        private ValueReader(Reader in) {
            this.in = in;
        }

        private Node whole() {
            count = 0;
            latest = null;
            in.skipBlanks();
            Node root = readNode(null, 1);
            in.skipBlanks();
            in.expect(Reader.END);
            return root;
        }

        private Node readNode(Node parent, int depth) {
            int kind = kindBegunBy(in.here());
            if (kind == NONE) {
                in.fail(FORM, in.at);
            }
            if (count >= MOST_VALUES || depth > MOST_DEPTH) {
                in.fail(LIMIT, in.at);
            }
            Node made = new Node(kind, parent, depth, count);
            count++;
            if (latest != null) {
                latest.next = made;
            }
            latest = made;
            readRest(made);
            made.last = count - 1;
            return made;
        }

        private static int kindBegunBy(int b) {
            switch (b) {
                case 'n':
                    return NULL;
                case 'f':
                    return FALSE;
                case 't':
                    return TRUE;
                case '"':
                    return STRING;
                case '[':
                    return ARRAY;
                case '{':
                    return OBJECT;
                default:
                    return b == '-' || isDigit(b) ? INT : NONE;
            }
        }

        private void readRest(Node made) {
            switch (made.kind) {
                case NULL:
                    in.expectWord("null");
                    break;
                case FALSE:
                    in.expectWord("false");
                    break;
                case TRUE:
                    in.expectWord("true");
                    break;
                case INT:
                    made.whole = readInt();
                    break;
                case STRING:
                    made.chars = in.string();
                    break;
                case ARRAY:
                    readElements(made);
                    break;
                default:
                    readMembers(made);
                    break;
            }
        }

        private long readInt() {
            int from = in.at;
            long whole = in.wholeNumber(true);
            if (isBeyond(whole)) {
                in.fail(RANGE, from);
            }
            return whole;
        }

        private boolean takesEmpty(int close) {
            in.at++;
            in.skipBlanks();
            if (in.here() != close) {
                return false;
            }
            in.at++;
            return true;
        }

        private void readElements(Node array) {
            if (takesEmpty(']')) {
                return;
            }
            boolean more = true;
            for (int k = 0; k <= MOST_VALUES && more; k++) {
                array.adopt(readNode(array, array.depth + 1), null);
                more = in.takeComma();
            }
            in.expect(']');
        }

        private void readMembers(Node object) {
            if (takesEmpty('}')) {
                return;
            }
            boolean more = true;
            for (int k = 0; k <= MOST_VALUES && more; k++) {
                readMember(object);
                more = in.takeComma();
            }
            in.expect('}');
        }

        private void readMember(Node object) {
            int from = in.at;
            if (in.here() != '"') {
                in.fail(FORM, from);
            }
            int[] name = in.string();
            if (object.member(name) != null) {
                in.fail(NAME, from);
            }
            in.skipBlanks();
            in.expect(':');
            in.skipBlanks();
            object.adopt(readNode(object, object.depth + 1), name);
        }
    }

    /** A query, or a PATH in a filter. */
    private static final class Path {
        private final boolean fromRoot;
        private final ArrayList<Segment> segments = new ArrayList<Segment>();
        private boolean singular = true;

        private Path(boolean fromRoot) {
            this.fromRoot = fromRoot;
        }
    }

    private static final class Segment {
        private final ArrayList<Selector> selectors = new ArrayList<Selector>();
        private boolean deep;
    }

    private static final class Selector {
        private static final int MEMBER = 0;
        private static final int ALL = 1;
        private static final int ELEMENT = 2;
        private static final int SLICE = 3;
        private static final int FILTER = 4;
        private final int kind;
        private int[] name;
        private boolean hasStart;
        private boolean hasEnd;
        private long start;
        private long end;
        private long step = 1;
        private Term filter;

        private Selector(int kind) {
            this.kind = kind;
        }

        private boolean isSingular() {
            return kind == MEMBER || kind == ELEMENT;
        }
    }

    /** A part of a filter: what is true or false of a VALUE, a COMPARABLE, or an ARGUMENT. */
    private static final class Term {
        private static final int OR = 0;
        private static final int AND = 1;
        private static final int COMPARISON = 2;
        private static final int LITERAL = 3;
        private static final int NODES = 4;
        private static final int LENGTH = 5;
        private static final int COUNT = 6;
        private static final int ONLY = 7;
        private static final int UNKNOWN = 8;
        private static final int LOGIC = 9;
        private final int kind;
        private final int place;
        private final ArrayList<Term> parts;
        private boolean negated;
        private int operator;
        // The two of a COMPARISON; the left one is a FUNCTION's ARGUMENT, too.
        private Term left;
        private Term right;
        private Path nodes;
        // A literal's VALUE, or where a FUNCTION puts its INT each time, since a find() makes no objects.
        private Node own;

        private Term(int kind, int place) {
            this.kind = kind;
            this.place = place;
            this.parts = kind == OR || kind == AND ? new ArrayList<Term>() : null;
        }

        private int partCount() {
            return parts == null ? 0 : parts.size();
        }

        private Term part(int i) {
            return i >= 0 && i < partCount() ? parts.get(i) : null;
        }

        // One part needs no list round it: what is asked of it stays the same.
        private Term simplest() {
            return partCount() == 1 ? part(0) : this;
        }

        private boolean isFunction() {
            return kind >= LENGTH && kind <= UNKNOWN;
        }

        private boolean isComparable() {
            return kind == LITERAL || isFunction() || kind == NODES && nodes != null && nodes.singular;
        }

        private boolean wants(Term given) {
            if (given == null) {
                return false;
            }
            return kind == LENGTH ? given.isComparable() : (kind == COUNT || kind == ONLY) && given.kind == NODES;
        }
    }

    /** Reads a query. Where 'strict' is told, a PATH must be a SINGULAR one at each byte. */
    private static final class QueryReader {
        private static final int EQUAL = 0;
        private static final int UNEQUAL = 1;
        private static final int LESS = 2;
        private static final int LESS_EQUAL = 3;
        private static final int GREATER = 4;
        private static final int GREATER_EQUAL = 5;
        private final Reader in;
        private int open;
        private int laterFault;
        private int laterPlace;

        private QueryReader(Reader in) {
            this.in = in;
        }

        private Path whole() {
            open = 0;
            laterFault = 0;
            laterPlace = NONE;
            if (in.here() != '$') {
                in.fail(FORM, in.at);
            }
            Path made = new Path(true);
            int behind = readSegments(made, false);
            if (in.at != behind || in.at != in.end) {
                in.fail(FORM, in.at);
            }
            if (laterFault != 0) {
                in.fail(laterFault, laterPlace);
            }
            return made;
        }

        // TYPE and RANGE are told only if the whole text has no other fault, the leftmost of them then.
        private void note(int which, int where) {
            if (laterFault == 0 || where < laterPlace) {
                laterFault = which;
                laterPlace = where;
            }
        }

        private void enter() {
            if (open >= MOST_OPEN) {
                in.fail(LIMIT, in.at);
            }
            open++;
            in.at++;
            in.skipBlanks();
        }

        private long readInt(boolean minusZero) {
            int from = in.at;
            long whole = in.wholeNumber(minusZero);
            if (isBeyond(whole)) {
                note(RANGE, from);
            }
            return whole;
        }

        private boolean atInt() {
            return in.here() == '-' || isDigit(in.here());
        }

        private boolean atString() {
            return in.here() == '"' || in.here() == '\'';
        }

        // Reads @ or $ and all behind it; answers the place behind the last SEGMENT, ahead of any S.
        private int readSegments(Path made, boolean strict) {
            in.at++;
            int behind = in.at;
            in.skipBlanks();
            for (int k = 0; k < in.end && (in.here() == '.' || in.here() == '['); k++) {
                readSegment(made, strict);
                behind = in.at;
                in.skipBlanks();
            }
            return behind;
        }

        private void readSegment(Path made, boolean strict) {
            Segment segment = new Segment();
            made.segments.add(segment);
            boolean singular;
            if (in.here() == '[') {
                singular = readBrackets(segment, strict);
            } else {
                in.at++;
                segment.deep = !strict && in.here() == '.';
                if (segment.deep) {
                    in.at++;
                }
                singular = segment.deep && in.here() == '['
                        ? readBrackets(segment, false) : readDotted(segment, strict);
            }
            made.singular = made.singular && singular && !segment.deep;
        }

        private boolean readDotted(Segment segment, boolean strict) {
            if (!strict && in.here() == '*') {
                in.at++;
                segment.selectors.add(new Selector(Selector.ALL));
                return false;
            }
            Selector made = new Selector(Selector.MEMBER);
            made.name = in.plainName();
            segment.selectors.add(made);
            return true;
        }

        private boolean readBrackets(Segment segment, boolean strict) {
            in.at++;
            boolean tight = !in.isBlank();
            if (!strict) {
                in.skipBlanks();
            }
            Selector first = readSelector(strict);
            segment.selectors.add(first);
            tight = tight && in.here() == ']';
            for (int k = 0; k < in.end && !strict && in.takeComma(); k++) {
                segment.selectors.add(readSelector(false));
            }
            in.expect(']');
            return tight && first.isSingular();
        }

        private Selector readSelector(boolean strict) {
            if (atString()) {
                Selector made = new Selector(Selector.MEMBER);
                made.name = in.string();
                return made;
            }
            if (atInt()) {
                return readIndexed(strict);
            }
            int b = strict ? Reader.END : in.here();
            if (b == ':') {
                return readSlice(false, 0);
            }
            if (b == '?') {
                return readFilter();
            }
            if (b != '*') {
                in.fail(FORM, in.at);
            }
            in.at++;
            return new Selector(Selector.ALL);
        }

        private Selector readIndexed(boolean strict) {
            long told = readInt(false);
            int behind = in.at;
            if (!strict) {
                in.skipBlanks();
                if (in.here() == ':') {
                    return readSlice(true, told);
                }
                in.at = behind;
            }
            Selector made = new Selector(Selector.ELEMENT);
            made.start = told;
            return made;
        }

        private Selector readSlice(boolean hasStart, long start) {
            Selector made = new Selector(Selector.SLICE);
            made.hasStart = hasStart;
            made.start = start;
            in.at++;
            in.skipBlanks();
            if (atInt()) {
                made.hasEnd = true;
                made.end = readInt(false);
                in.skipBlanks();
            }
            if (in.here() == ':') {
                in.at++;
                in.skipBlanks();
                made.step = atInt() ? readInt(false) : 1;
            }
            return made;
        }

        private Selector readFilter() {
            Selector made = new Selector(Selector.FILTER);
            enter();
            made.filter = readOr(null);
            open--;
            return made;
        }

        // 'begun', if there is one, is the first operand, read already where it could have stood by itself.
        private Term readOr(Term begun) {
            Term made = new Term(Term.OR, in.at);
            made.parts.add(readAnd(begun));
            for (int k = 0; k < in.end && takesTwice('|'); k++) {
                made.parts.add(readAnd(null));
            }
            return made.simplest();
        }

        private Term readAnd(Term begun) {
            Term made = new Term(Term.AND, in.at);
            made.parts.add(begun == null ? readBasic() : readBasicFrom(begun));
            for (int k = 0; k < in.end && takesTwice('&'); k++) {
                made.parts.add(readBasic());
            }
            return made.simplest();
        }

        private boolean takesTwice(int b) {
            in.skipBlanks();
            if (in.here() != b) {
                return false;
            }
            in.at++;
            in.expect(b);
            in.skipBlanks();
            return true;
        }

        private Term readBasic() {
            if (in.here() == '!') {
                in.at++;
                in.skipBlanks();
                Term made = in.here() == '(' ? readGroup() : readNegatedTest();
                made.negated = !made.negated;
                return made;
            }
            return in.here() == '(' ? readGroup() : readBasicFrom(readOperand(false));
        }

        private Term readGroup() {
            enter();
            Term made = readOr(null);
            in.expect(')');
            open--;
            return made;
        }

        private Term readNegatedTest() {
            if (atInt() || atString()) {
                in.fail(FORM, in.at);
            }
            return asTest(readOperand(false));
        }

        private Term readBasicFrom(Term left) {
            in.skipBlanks();
            return left.isComparable() && atOperator() ? readComparison(left) : asTest(left);
        }

        private Term asTest(Term tested) {
            if (tested.kind == Term.LITERAL) {
                in.fail(FORM, in.at);
            }
            if (tested.isFunction()) {
                note(TYPE, tested.place);
            }
            return tested;
        }

        private boolean atOperator() {
            int b = in.here();
            return b == '=' || b == '!' || b == '<' || b == '>';
        }

        private Term readComparison(Term left) {
            Term made = new Term(Term.COMPARISON, left.place);
            made.left = left;
            made.operator = readOperator();
            in.skipBlanks();
            made.right = readOperand(true);
            return made;
        }

        private int readOperator() {
            int b = in.here();
            in.at++;
            if (b == '=' || b == '!') {
                in.expect('=');
                return b == '=' ? EQUAL : UNEQUAL;
            }
            if (in.here() != '=') {
                return b == '<' ? LESS : GREATER;
            }
            in.at++;
            return b == '<' ? LESS_EQUAL : GREATER_EQUAL;
        }

        private Term readOperand(boolean strict) {
            int from = in.at;
            int b = in.here();
            if (b == '@' || b == '$') {
                Term made = new Term(Term.NODES, from);
                made.nodes = new Path(b == '$');
                readSegments(made.nodes, strict);
                return made;
            }
            if (isSmall(b)) {
                return readWord();
            }
            if (atInt()) {
                Term made = literal(INT, from);
                made.own.whole = readInt(true);
                return made;
            }
            if (!atString()) {
                in.fail(FORM, from);
            }
            Term made = literal(STRING, from);
            made.own.chars = in.string();
            return made;
        }

        private static Term literal(int kind, int place) {
            Term made = new Term(Term.LITERAL, place);
            made.own = new Node(kind, null, 0, 0);
            return made;
        }

        private Term readWord() {
            int from = in.at;
            while (in.at < in.end && (isSmall(in.here()) || isDigit(in.here()) || in.here() == '_')) {
                in.at++;
            }
            if (in.here() == '(') {
                return readFunction(from);
            }
            if (in.isWord(from, in.at, "null")) {
                return literal(NULL, from);
            }
            if (in.isWord(from, in.at, "false")) {
                return literal(FALSE, from);
            }
            if (!in.isWord(from, in.at, "true")) {
                in.fail(FORM, in.at);
            }
            return literal(TRUE, from);
        }

        private Term readFunction(int from) {
            Term made = new Term(functionNamed(from), from);
            made.own = new Node(INT, null, 0, 0);
            enter();
            int given = 0;
            boolean more = in.here() != ')';
            for (int k = 0; k < in.end && more; k++) {
                made.left = readArgument();
                given++;
                more = in.takeComma();
            }
            in.expect(')');
            open--;
            if (given != 1 || !made.wants(made.left)) {
                note(TYPE, from);
            }
            return made;
        }

        private int functionNamed(int from) {
            if (in.isWord(from, in.at, "length")) {
                return Term.LENGTH;
            }
            if (in.isWord(from, in.at, "count")) {
                return Term.COUNT;
            }
            return in.isWord(from, in.at, "value") ? Term.ONLY : Term.UNKNOWN;
        }

        private Term readArgument() {
            int from = in.at;
            Term begun = null;
            if (in.here() != '!' && in.here() != '(') {
                begun = readOperand(false);
                in.skipBlanks();
                if (!goesOnAsOr(begun)) {
                    return begun;
                }
            }
            readOr(begun);
            return new Term(Term.LOGIC, from);
        }

        private boolean goesOnAsOr(Term begun) {
            boolean joined = in.here() == '&' || in.here() == '|';
            return joined && begun.kind != Term.LITERAL || begun.isComparable() && atOperator();
        }
    }

    /** A nodelist. */
    private static final class Row {
        private final Node[] nodes = new Node[MOST_NODES];
        private int count;

        private Node get(int i) {
            return i >= 0 && i < count && i < nodes.length ? nodes[i] : null;
        }

        private boolean add(Node node) {
            if (count >= nodes.length) {
                return false;
            }
            nodes[count] = node;
            count++;
            return true;
        }
    }

    /** Finds the nodes of a query in a value. */
    private static final class Finder {
        // The query's own PATH, and those in as many filters within one another as may be open.
        private static final int LEVELS = MOST_OPEN + 1;
        private final Row[] rows = new Row[2 * LEVELS];
        private Node root;
        private Row result;
        private int looks;
        private int stopped;

        private void forget() {
            result = null;
        }

        private Node result(int i) {
            return result == null ? null : result.get(i);
        }

        private int results() {
            return result == null ? 0 : result.count;
        }

        private int run(Path asked, Node whole) {
            root = whole;
            result = null;
            looks = 0;
            try {
                result = select(asked, whole, 0);
            } catch (IllegalStateException stop) {
                return stopped;
            }
            return results();
        }

        // Unwinds the whole find() at once, however many filters are open.
        private void stop(int why) {
            stopped = why;
            throw new IllegalStateException("the find ends here");
        }

        private void look() {
            if (looks >= MOST_LOOKS) {
                stop(TIRED);
            }
            looks++;
        }

        private void put(Node node, Row into) {
            if (node != null && !into.add(node)) {
                stop(MANY);
            }
        }

        // Rows are made when a level is first needed and used again: most queries need one level.
        private Row emptyRow(int i) {
            if (i < 0 || i >= rows.length) {
                stop(MANY);
                return null;
            }
            if (rows[i] == null) {
                rows[i] = new Row();
            }
            rows[i].count = 0;
            return rows[i];
        }

        private Row select(Path asked, Node here, int level) {
            int side = 2 * level;
            Row from = emptyRow(side);
            put(asked.fromRoot ? root : here, from);
            for (int k = 0; k < asked.segments.size(); k++) {
                side ^= 1;
                Row into = emptyRow(side);
                for (int i = 0; i < from.count; i++) {
                    walk(asked.segments.get(k), from.get(i), into, level);
                }
                from = into;
            }
            return from;
        }

        private void walk(Segment asked, Node top, Row into, int level) {
            if (!asked.deep) {
                ask(asked, top, into, level);
                return;
            }
            for (Node node = top; node != null && node.order <= top.last; node = node.next) {
                look();
                ask(asked, node, into, level);
            }
        }

        private void ask(Segment asked, Node node, Row into, int level) {
            for (int k = 0; k < asked.selectors.size(); k++) {
                look();
                pick(asked.selectors.get(k), node, into, level);
            }
        }

        private void pick(Selector asked, Node node, Row into, int level) {
            switch (asked.kind) {
                case Selector.MEMBER:
                    put(node.member(asked.name), into);
                    break;
                case Selector.ALL:
                    pickAll(node, into);
                    break;
                case Selector.ELEMENT:
                    put(node.element(asked.start), into);
                    break;
                case Selector.SLICE:
                    pickSlice(asked, node, into);
                    break;
                default:
                    pickTrue(asked.filter, node, into, level);
                    break;
            }
        }

        private void pickAll(Node node, Row into) {
            for (int k = 0; k < node.kidCount(); k++) {
                put(node.kid(k), into);
            }
        }

        private void pickTrue(Term filter, Node node, Row into, int level) {
            for (int k = 0; k < node.kidCount(); k++) {
                look();
                if (holds(filter, node.kid(k), level + 1)) {
                    put(node.kid(k), into);
                }
            }
        }

        private void pickSlice(Selector asked, Node node, Row into) {
            if (node.kind != ARRAY || asked.step == 0) {
                return;
            }
            int n = node.kidCount();
            if (asked.step > 0) {
                long end = asked.hasEnd ? bounded(asked.end, n, 0, n) : n;
                for (long i = asked.hasStart ? bounded(asked.start, n, 0, n) : 0; i < end; i += asked.step) {
                    put(node.kid(i), into);
                }
            } else {
                long end = asked.hasEnd ? bounded(asked.end, n, -1, n - 1) : -1;
                for (long i = asked.hasStart ? bounded(asked.start, n, -1, n - 1) : n - 1; i > end; i += asked.step) {
                    put(node.kid(i), into);
                }
            }
        }

        private static long bounded(long told, int n, long least, long most) {
            long place = told < 0 ? told + n : told;
            return Math.max(least, Math.min(most, place));
        }

        private boolean holds(Term asked, Node here, int level) {
            if (asked == null) {
                return false;
            }
            boolean told = asked.kind == Term.AND;
            switch (asked.kind) {
                case Term.OR:
                    for (int k = 0; k < asked.partCount() && !told; k++) {
                        told = holds(asked.part(k), here, level);
                    }
                    break;
                case Term.AND:
                    for (int k = 0; k < asked.partCount() && told; k++) {
                        told = holds(asked.part(k), here, level);
                    }
                    break;
                case Term.COMPARISON:
                    Node left = valueOf(asked.left, here, level);
                    Node right = valueOf(asked.right, here, level);
                    told = compares(asked.operator, left, right);
                    break;
                default:
                    told = countOf(asked, here, level) > 0;
                    break;
            }
            return told != asked.negated;
        }

        private int countOf(Term asked, Node here, int level) {
            return asked == null || asked.nodes == null ? 0 : select(asked.nodes, here, level).count;
        }

        private Node onlyOf(Term asked, Node here, int level) {
            if (asked == null || asked.nodes == null) {
                return null;
            }
            Row nodes = select(asked.nodes, here, level);
            return nodes.count == 1 ? nodes.get(0) : null;
        }

        // NOTHING is null.
        private Node valueOf(Term asked, Node here, int level) {
            if (asked == null) {
                return null;
            }
            switch (asked.kind) {
                case Term.LITERAL:
                    return asked.own;
                case Term.NODES:
                    return onlyOf(asked, here, level);
                case Term.LENGTH:
                    return lengthOf(valueOf(asked.left, here, level), asked.own);
                case Term.COUNT:
                    return reckoned(countOf(asked.left, here, level), asked.own);
                default:
                    return onlyOf(asked.left, here, level);
            }
        }

        private static Node reckoned(int whole, Node answer) {
            if (answer != null) {
                answer.whole = whole;
            }
            return answer;
        }

        private static Node lengthOf(Node measured, Node answer) {
            return measured == null || measured.kind < STRING ? null : reckoned(measured.size(), answer);
        }

        private boolean compares(int operator, Node left, Node right) {
            switch (operator) {
                case QueryReader.EQUAL:
                    return isEqual(left, right, MOST_DEPTH);
                case QueryReader.UNEQUAL:
                    return !isEqual(left, right, MOST_DEPTH);
                case QueryReader.LESS:
                    return isLess(left, right);
                case QueryReader.LESS_EQUAL:
                    return isLess(left, right) || isEqual(left, right, MOST_DEPTH);
                case QueryReader.GREATER:
                    return isLess(right, left);
                default:
                    return isLess(right, left) || isEqual(right, left, MOST_DEPTH);
            }
        }

        private static boolean isLess(Node left, Node right) {
            if (left == null || right == null || left.kind != right.kind) {
                return false;
            }
            return left.kind == INT ? left.whole < right.whole : charsBefore(left.chars, right.chars);
        }

        private boolean isEqual(Node left, Node right, int depth) {
            if (left == null || right == null) {
                return left == null && right == null;
            }
            look();
            if (left.kind != right.kind || left.kidCount() != right.kidCount() || depth <= 0) {
                return false;
            }
            if (left.kind == INT) {
                return left.whole == right.whole;
            }
            if (left.kind == STRING) {
                return sameChars(left.chars, right.chars);
            }
            boolean same = true;
            for (int k = 0; k < left.kidCount() && same; k++) {
                Node kid = left.kid(k);
                Node other = left.kind == ARRAY ? right.kid(k) : right.member(kid.name);
                same = other != null && isEqual(kid, other, depth - 1);
            }
            return same;
        }
    }

    /** The bytes of OUT. */
    private static final class Out {
        private final byte[] bytes = new byte[OUT_BYTES];
        private int count;

        private void clear() {
            count = 0;
        }

        private boolean has(int i) {
            return i >= 0 && i < count && i < bytes.length;
        }

        private int get(int i) {
            return has(i) ? bytes[i] & 255 : NONE;
        }

        private void put(int b) {
            if (count < bytes.length) {
                bytes[count] = (byte) b;
                count++;
            }
        }

        private void putWord(String word) {
            for (int k = 0; k < word.length(); k++) {
                put(word.charAt(k));
            }
        }

        private void putWhole(long whole) {
            if (whole < 0) {
                put('-');
            }
            long rest = Math.abs(whole);
            long unit = 1;
            for (int k = 0; k < 17 && rest / unit >= 10; k++) {
                unit *= 10;
            }
            for (; unit > 0; unit /= 10) {
                put((int) ('0' + rest / unit % 10));
            }
        }

        private void putQuoted(int[] chars, int quote) {
            put(quote);
            for (int k = 0; chars != null && k < chars.length; k++) {
                int code = chars[k];
                if (code == quote || code == '\\') {
                    put('\\');
                    put(code);
                } else if (code < 32) {
                    putControl(code);
                } else {
                    putCode(code);
                }
            }
            put(quote);
        }

        private void putControl(int code) {
            put('\\');
            switch (code) {
                case 8:
                    put('b');
                    break;
                case 9:
                    put('t');
                    break;
                case 10:
                    put('n');
                    break;
                case 12:
                    put('f');
                    break;
                case 13:
                    put('r');
                    break;
                default:
                    putWord("u00");
                    put('0' + (code >> 4));
                    put((code & 15) < 10 ? '0' + (code & 15) : 'a' + (code & 15) - 10);
                    break;
            }
        }

        private void putCode(int code) {
            if (code < 0x80) {
                put(code);
            } else if (code < 0x800) {
                put(0xC0 | code >> 6);
                put(0x80 | code & 63);
            } else if (code < 0x10000) {
                put(0xE0 | code >> 12);
                put(0x80 | code >> 6 & 63);
                put(0x80 | code & 63);
            } else {
                put(0xF0 | code >> 18);
                put(0x80 | code >> 12 & 63);
                put(0x80 | code >> 6 & 63);
                put(0x80 | code & 63);
            }
        }

        private void putSteps(Node node, int depth) {
            if (node.parent == null || depth <= 0) {
                put('$');
                return;
            }
            putSteps(node.parent, depth - 1);
            put('[');
            if (node.index == NONE) {
                putQuoted(node.name, '\'');
            } else {
                putWhole(node.index);
            }
            put(']');
        }

        private void putValue(Node node, int depth) {
            switch (node.kind) {
                case NULL:
                    putWord("null");
                    break;
                case FALSE:
                    putWord("false");
                    break;
                case TRUE:
                    putWord("true");
                    break;
                case INT:
                    putWhole(node.whole);
                    break;
                case STRING:
                    putQuoted(node.chars, '"');
                    break;
                default:
                    putKids(node, depth);
                    break;
            }
        }

        private void putKids(Node node, int depth) {
            put(node.kind == ARRAY ? '[' : '{');
            for (int k = 0; k < node.kidCount() && depth > 0; k++) {
                Node kid = node.kid(k);
                if (k > 0) {
                    put(',');
                }
                if (node.kind == OBJECT) {
                    putQuoted(kid.name, '"');
                    put(':');
                }
                putValue(kid, depth - 1);
            }
            put(node.kind == ARRAY ? ']' : '}');
        }
    }
}
