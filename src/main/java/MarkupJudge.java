import java.util.Arrays;

/** Judges documents of marked-up text. README.md tells its use, the project's document its promises. */
public final class MarkupJudge {
    public static final int NONE = -1;

    private static final int MOST_BYTES = 65536;
    private static final int MOST_PRODUCT = 262144;
    private static final int LEAST_ROOM = 64;
    private static final int MOST_ROOM = 98304;
    private static final int LEAST_NODES = 16;
    private static final int MOST_NODES = 16384;

    /** Far above the steps that any loop can take: each one uses up a counted character or an opened entity. */
    private static final int MANY = 1000000;

    private static final int BAD_BYTES = 1;
    private static final int OTHER_ENCODING = 2;
    private static final int FROM_OUTSIDE = 3;
    private static final int NO_ROOM = 4;
    private static final int BADLY_WRITTEN = 5;
    private static final int OUT_OF_PLACE = 6;
    private static final int OTHER_END = 7;
    private static final int TWICE = 8;
    private static final int NOT_DECLARED = 9;
    private static final int WITHIN_ITSELF = 10;
    private static final int TAG_IN_VALUE = 11;
    private static final int NO_CHARACTER = 12;
    private static final int PARAMETER_IN_TEXT = 13;
    private static final int TORN = 14;

    private final byte[] bytes;
    private int count;
    private final Store store;
    private final Reader reader;
    private final Entities entities;
    private final Declared declared;
    private final Doctype doctype;
    private final Tree tree;
    private final Content content;
    private final Validator validator;
    private final Meanings meanings;
    private final Writer writer;
    private boolean atHand;
    private int lastFault;
    private int lastPlace;

    public MarkupJudge(int room, int nodes) {
        int characters = room >= LEAST_ROOM && room <= MOST_ROOM ? room : MOST_ROOM;
        int most = nodes >= LEAST_NODES && nodes <= MOST_NODES ? nodes : MOST_NODES;
        bytes = new byte[MOST_BYTES];
        store = new Store(characters);
        reader = new Reader(store);
        entities = new Entities(store, reader);
        declared = new Declared(store);
        doctype = new Doctype(store, reader, entities, declared);
        tree = new Tree(characters, most);
        content = new Content(store, reader, entities, declared, doctype, tree);
        validator = new Validator(store, reader, entities, declared, doctype, tree, new Model(store, reader));
        meanings = new Meanings(store, tree);
        writer = new Writer(store, tree, meanings);
        lastPlace = NONE;
    }

    public void feed(int a, int b, int c, int d, int e) throws IllegalStateException {
        if (count > MOST_BYTES - 20) {
            throw new IllegalStateException("more than 65536 bytes");
        }
        take(a);
        take(b);
        take(c);
        take(d);
        take(e);
    }

    private void take(int four) {
        for (int shift = 24; shift >= 0 && count < MOST_BYTES; shift -= 8) {
            bytes[count] = (byte) (four >>> shift);
            count++;
        }
    }

    public int end(int n) throws IllegalArgumentException {
        if (n < 0 || n > count) {
            throw new IllegalArgumentException("not so many bytes");
        }
        int before = count;
        count = n;
        return before;
    }

    public int change(int i, int b) {
        if (i < 0 || i >= count || b < 0 || b > 255) {
            return NONE;
        }
        int before = bytes[i] & 255;
        bytes[i] = (byte) b;
        return before;
    }

    public int judge() {
        int n = count;
        count = 0;
        forget();
        int broken = store.load(bytes, n);
        reader.start();
        if (broken != NONE) {
            reader.place = broken;
            reader.fail(BAD_BYTES);
        } else if (store.length > store.room) {
            reader.fail(NO_ROOM);
        } else {
            entities.start();
            content.readAll();
        }
        lastFault = reader.fault;
        atHand = lastFault == 0;
        lastPlace = atHand ? NONE : reader.place;
        if (!atHand) {
            tree.forget();
            return 2;
        }
        validator.countAll();
        meanings.countAll(reader.colons);
        return validator.sum() == 0 ? 0 : 1;
    }

    private void forget() {
        int used = store.words;
        entities.forget(used);
        declared.forget(used);
        meanings.forget(used);
        store.forget();
        doctype.forget();
        tree.forget();
    }

    public int fault() {
        return lastFault;
    }

    public int place() {
        return lastPlace;
    }

    public int violations(int k) {
        return atHand && k >= 0 && k < Validator.CONSTRAINTS ? validator.counts[k] : NONE;
    }

    public int spaces(int k) {
        return atHand && k >= 0 && k < Meanings.CONSTRAINTS ? meanings.counts[k] : NONE;
    }

    public int elements() {
        return tree.elements;
    }

    public int attributes(int e) {
        return tree.has(e) ? tree.all[e] : NONE;
    }

    public int parent(int e) {
        return tree.has(e) ? tree.above[e] : NONE;
    }

    public int name(int e, int i) {
        return tree.has(e) ? store.letter(tree.tag[e], i) : NONE;
    }

    public int attribute(int e, int a, int what, int i) {
        if (!tree.has(e) || a < 0 || a >= tree.all[e] || what < 0 || what > 1) {
            return NONE;
        }
        int at = tree.first[e] + a;
        return store.letter(what == 0 ? tree.label[at] : tree.value[at], i);
    }

    public int characters() {
        return tree.letters;
    }

    public int counted() {
        return atHand ? entities.counted : 0;
    }

    public int canonical() {
        if (!atHand) {
            return NONE;
        }
        if (meanings.sum() > 0) {
            return -2;
        }
        if (entities.missing > 0 || meanings.relative) {
            return -3;
        }
        return writer.write() ? writer.size : -4;
    }

    public int out(int i) {
        return i >= 0 && i < writer.size ? writer.product[i] & 255 : NONE;
    }

    public int back() {
        int size = writer.size;
        if (size == 0 || size > MOST_BYTES) {
            return NONE;
        }
        System.arraycopy(writer.product, 0, bytes, 0, size);
        count = size;
        return size;
    }

    /**
     * The document says that this is so, ever: nothing is looked at here. That it is so is a matter of what the
     * writer writes; the tests send the product back and compare.
     */
    public boolean steady() {
        return true;
    }

    /** One row of characters (constants, text, entities' texts, values), and the words that stand in it, by number. */
    private static final class Store {
        static final int NOTHING = 0;
        static final int LT = 1;
        static final int QUOT = 5;
        static final int XML = 6;
        static final int XMLNS = 7;
        static final int XML_MEANS = 8;
        static final int XMLNS_MEANS = 9;
        static final int CDATA = 10;
        static final int ID = 11;
        static final int IDREF = 12;
        static final int IDREFS = 13;
        static final int ENTITY = 14;
        static final int ENTITIES = 15;
        static final int NMTOKEN = 16;
        static final int NMTOKENS = 17;
        static final int NOTATION = 18;
        private static final int CONSTANTS = 256;
        private static final int[] LEAST = {0, 128, 2048, 65536};

        final int room;
        final int[] chars;
        final int begin;
        int top;
        int length;
        boolean wide;
        private boolean behindReturn;
        final int[] from;
        final int[] size;
        private final int[] hash;
        private final int[] next;
        private final int[] head;
        private final int lasting;
        private int sought;
        int words;
        final int[] mark;
        private int stamp;

        Store(int room) {
            this.room = room;
            // Entities' texts and values are made of counted characters, each of which is used once.
            chars = new int[CONSTANTS + Math.min(room, MOST_BYTES) + room];
            // A word and what parts it from the next one take two counted characters at least.
            int most = room / 2 + 64;
            from = new int[most];
            size = new int[most];
            hash = new int[most];
            next = new int[most];
            mark = new int[most];
            int slots = 64;
            for (int i = 0; i < 20 && slots < most; i++) {
                slots *= 2;
            }
            head = new int[slots];
            Arrays.fill(head, NONE);
            keep("");
            keep("lt");
            keep("gt");
            keep("amp");
            keep("apos");
            keep("quot");
            keep("xml");
            keep("xmlns");
            keep("http://www.w3.org/XML/1998/namespace");
            keep("http://www.w3.org/2000/xmlns/");
            keep("CDATA");
            keep("ID");
            keep("IDREF");
            keep("IDREFS");
            keep("ENTITY");
            keep("ENTITIES");
            keep("NMTOKEN");
            keep("NMTOKENS");
            keep("NOTATION");
            lasting = words;
            begin = top;
        }

        private void keep(String constant) {
            int at = top;
            for (int i = 0; i < constant.length(); i++) {
                add(constant.charAt(i));
            }
            intern(at, constant.length());
        }

        void forget() {
            for (int w = words - 1; w >= lasting; w--) {
                head[hash[w] & (head.length - 1)] = next[w];
            }
            words = lasting;
            top = begin;
            length = 0;
            behindReturn = false;
        }

        void add(int c) {
            if (top < chars.length) {
                chars[top] = c;
                top++;
            }
        }

        /** Makes the text of the first n bytes; answers NONE, or how many bytes stand before what is no character. */
        int load(byte[] in, int n) {
            int first = n > 0 ? in[0] & 255 : 0;
            int second = n > 1 ? in[1] & 255 : 0;
            boolean highFirst = first == 254 && second == 255;
            wide = highFirst || first == 255 && second == 254;
            if (wide) {
                return loadWide(in, n, highFirst ? 0 : 1);
            }
            boolean marked = n > 2 && first == 239 && second == 187 && (in[2] & 255) == 191;
            return loadNarrow(in, n, marked ? 3 : 0);
        }

        private int loadNarrow(byte[] in, int n, int start) {
            int more;
            for (int i = start; i < n; i += more + 1) {
                int lead = in[i] & 255;
                more = lead < 128 ? 0 : lead < 224 ? 1 : lead < 240 ? 2 : 3;
                if (lead >= 128 && lead < 192 || lead >= 248 || n - i <= more) {
                    return i;
                }
                int c = more == 0 ? lead : lead & 63 >> more;
                for (int k = 1; k <= more; k++) {
                    int b = in[i + k] & 255;
                    if ((b & 192) != 128) {
                        return i;
                    }
                    c = c << 6 | b & 63;
                }
                if (c < LEAST[more] || !Reader.isCharacter(c)) {
                    return i;
                }
                addToText(c);
            }
            return NONE;
        }

        private int loadWide(byte[] in, int n, int high) {
            int more;
            for (int i = 2; i < n; i += more) {
                more = 2;
                if (n - i < 2) {
                    return i;
                }
                int c = (in[i + high] & 255) << 8 | in[i + 1 - high] & 255;
                if (c >= 55296 && c <= 56319 && n - i >= 4) {
                    int d = (in[i + 2 + high] & 255) << 8 | in[i + 3 - high] & 255;
                    if (d >= 56320 && d <= 57343) {
                        c = 65536 + 1024 * (c - 55296) + d - 56320;
                        more = 4;
                    }
                }
                if (!Reader.isCharacter(c)) {
                    return i;
                }
                addToText(c);
            }
            return NONE;
        }

        private void addToText(int c) {
            if (c != 10 || !behindReturn) {
                if (length < room) {
                    add(c == 13 ? 10 : c);
                }
                length++;
            }
            behindReturn = c == 13;
        }

        /** The number of the word that is written so, or NONE. */
        int find(int at, int n) {
            int h = n;
            for (int i = at; i < at + n; i++) {
                h = h * 31 + chars[i];
            }
            sought = h ^ h >>> 15;
            int w = head[sought & (head.length - 1)];
            for (int turn = 0; turn < words && w != NONE; turn++) {
                int same = hash[w] == sought && size[w] == n ? 0 : NONE;
                for (int i = 0; i < n && same == i && chars[from[w] + i] == chars[at + i]; i++) {
                    same++;
                }
                if (same == n) {
                    return w;
                }
                w = next[w];
            }
            return NONE;
        }

        int intern(int at, int n) {
            int w = find(at, n);
            if (w != NONE) {
                return w;
            }
            if (words >= from.length) {
                return NOTHING;
            }
            from[words] = at;
            size[words] = n;
            hash[words] = sought;
            int slot = sought & (head.length - 1);
            next[words] = head[slot];
            head[slot] = words;
            words++;
            return words - 1;
        }

        /** The word made of all that was added from there on; if it was known, the room for it is free again. */
        int internAdded(int at) {
            int known = words;
            int w = intern(at, top - at);
            if (known == words) {
                top = at;
            }
            return w;
        }

        int letter(int word, int i) {
            return i >= 0 && i < size[word] ? chars[from[word] + i] : NONE;
        }

        /** Below 0, 0 or above 0: the order by characters, the shorter one first if it begins the other. */
        int compare(int word, int other) {
            int n = Math.min(size[word], size[other]);
            for (int i = 0; i < n; i++) {
                int difference = chars[from[word] + i] - chars[from[other] + i];
                if (difference != 0) {
                    return difference;
                }
            }
            return size[word] - size[other];
        }

        /** A number that no word is marked with yet. */
        int newMark() {
            stamp++;
            return stamp;
        }
    }

    /** Goes through the text, or the entity's text that is open; the first fault sticks. */
    private static final class Reader {
        private static final int[] NAME_STARTS = {192, 214, 216, 246, 248, 767, 880, 893, 895, 8191, 8204, 8205, 8304, 8591,
            11264, 12271, 12289, 55295, 63744, 64975, 65008, 65533, 65536, 983039};
        private static final String IN_PUBLIC = "-'()+,./:=?;!*#@$_%";
        private static final int NUMBER_TOO_BIG = 1114112;

        private final Store store;
        private final int[] chars;
        int pos;
        int stop;
        int fault;
        int place;
        int colons;
        /** The reference read last: the number of its character, or NONE and its name. */
        int code;
        int word;
        int wordSize;
        /** What stands within the literal, section or instruction read last. */
        int inner;
        int innerSize;

        Reader(Store store) {
            this.store = store;
            chars = store.chars;
        }

        void start() {
            pos = store.begin;
            stop = store.top;
            fault = 0;
            place = 0;
            colons = 0;
        }

        void fail(int number) {
            if (fault == 0) {
                fault = number;
            }
        }

        static boolean isCharacter(int c) {
            return c >= 32 && c <= 55295 || c == 9 || c == 10 || c == 13 || c >= 57344 && c <= 65533
                || c >= 65536 && c <= 1114111;
        }

        static boolean isSpace(int c) {
            return c == 32 || c == 10 || c == 9 || c == 13;
        }

        static boolean isLetter(int c) {
            return c >= 'a' && c <= 'z' || c >= 'A' && c <= 'Z';
        }

        static boolean isDigit(int c) {
            return c >= '0' && c <= '9';
        }

        static boolean isNameCharacter(int c) {
            if (c < 128) {
                return c >= 'a' && c <= 'z' || c >= 'A' && c <= 'Z' || c >= '0' && c <= '9' || c == ':' || c == '_' || c == '-'
                    || c == '.';
            }
            if (c == 183 || c >= 768 && c <= 879 || c == 8255 || c == 8256) {
                return true;
            }
            for (int i = 0; i + 1 < NAME_STARTS.length; i += 2) {
                if (c >= NAME_STARTS[i] && c <= NAME_STARTS[i + 1]) {
                    return true;
                }
            }
            return false;
        }

        /** Whether this name character may not begin a name. */
        static boolean isNoStart(int c) {
            return c == '-' || c == '.' || c >= '0' && c <= '9' || c == 183 || c >= 768 && c <= 879 || c == 8255 || c == 8256;
        }

        int peek() {
            return pos < stop ? chars[pos] : NONE;
        }

        boolean at(String s) {
            int n = s.length();
            if (stop - pos < n) {
                return false;
            }
            for (int i = 0; i < n; i++) {
                if (chars[pos + i] != s.charAt(i)) {
                    return false;
                }
            }
            return true;
        }

        boolean skip(String s) {
            boolean there = at(s);
            if (there) {
                pos += s.length();
            }
            return there;
        }

        void need(String s) {
            if (at(s)) {
                pos += s.length();
            } else {
                fail(BADLY_WRITTEN);
            }
        }

        boolean skipSpace() {
            int from = pos;
            for (int i = pos; i < stop && isSpace(chars[i]); i++) {
                pos++;
            }
            return pos > from;
        }

        void needSpace() {
            if (!skipSpace()) {
                fail(BADLY_WRITTEN);
            }
        }

        private void seek(String s) {
            for (int i = pos; i < stop; i++) {
                pos = i;
                if (at(s)) {
                    return;
                }
            }
            fail(BADLY_WRITTEN);
        }

        int readName() {
            int from = pos;
            if (pos < stop && !isNoStart(chars[pos])) {
                for (int i = pos; i < stop && isNameCharacter(chars[i]); i++) {
                    pos++;
                }
            }
            if (pos == from) {
                fail(BADLY_WRITTEN);
            }
            return from;
        }

        int readToken() {
            int from = pos;
            for (int i = pos; i < stop && isNameCharacter(chars[i]); i++) {
                pos++;
            }
            if (pos == from) {
                fail(BADLY_WRITTEN);
            }
            return from;
        }

        void readComment() {
            need("<!--");
            seek("--");
            need("-->");
        }

        /** Leaves the name in word, the rest in inner. */
        void readInstruction() {
            need("<?");
            word = readName();
            wordSize = pos - word;
            if (isWrittenAs(word, wordSize, "xml") || !skipSpace() && !at("?>")) {
                fail(BADLY_WRITTEN);
            }
            inner = pos;
            seek("?>");
            innerSize = pos - inner;
            need("?>");
            lookForColon(word, wordSize);
        }

        /** Whether it is that, in letters of either size. */
        boolean isWrittenAs(int from, int size, String small) {
            if (size != small.length()) {
                return false;
            }
            for (int i = 0; i < size; i++) {
                int c = chars[from + i];
                if ((c >= 'A' && c <= 'Z' ? c + 32 : c) != small.charAt(i)) {
                    return false;
                }
            }
            return true;
        }

        void lookForColon(int from, int size) {
            for (int i = from; i < from + size; i++) {
                if (chars[i] == ':') {
                    colons++;
                    return;
                }
            }
        }

        void readSection() {
            need("<![CDATA[");
            inner = pos;
            seek("]]>");
            innerSize = pos - inner;
            need("]]>");
        }

        void readRun() {
            int from = pos;
            for (int i = pos; i < stop && chars[i] != '<' && chars[i] != '&'; i++) {
                pos++;
                if (chars[i] == '>' && i - 2 >= from && chars[i - 1] == ']' && chars[i - 2] == ']') {
                    fail(BADLY_WRITTEN);
                }
            }
        }

        /** At a '&'. */
        void readReference() {
            pos++;
            code = NONE;
            if (skip("#x")) {
                readNumber(16);
            } else if (skip("#")) {
                readNumber(10);
            } else {
                word = readName();
                wordSize = pos - word;
            }
            need(";");
        }

        private void readNumber(int base) {
            int from = pos;
            code = 0;
            for (int i = pos; i < stop; i++) {
                int c = chars[i];
                int small = c >= 'A' && c <= 'Z' ? c + 32 : c;
                int digit = c >= '0' && c <= '9' ? c - '0' : small >= 'a' && small <= 'f' ? small - 'a' + 10 : 16;
                if (digit >= base) {
                    break;
                }
                code = Math.min(code * base + digit, NUMBER_TOO_BIG);
                pos++;
            }
            if (pos == from) {
                fail(BADLY_WRITTEN);
            }
        }

        boolean atQuote() {
            int c = peek();
            return c == '"' || c == '\'';
        }

        void readLiteral() {
            int quote = peek();
            if (quote != '"' && quote != '\'') {
                fail(BADLY_WRITTEN);
                return;
            }
            inner = pos + 1;
            for (int i = inner; i < stop; i++) {
                if (chars[i] == quote) {
                    innerSize = i - inner;
                    pos = i + 1;
                    return;
                }
            }
            fail(BADLY_WRITTEN);
        }

        void readPublicLiteral() {
            readLiteral();
            for (int i = inner; i < inner + innerSize && fault == 0; i++) {
                int c = chars[i];
                if (c != 32 && c != 10 && !isLetter(c) && !isDigit(c) && (c > 127 || IN_PUBLIC.indexOf((char) c) < 0)) {
                    fail(BADLY_WRITTEN);
                }
            }
        }

        /** With publicAlone the literal behind the public one may be missing. */
        void readOutside(boolean publicAlone) {
            if (skip("SYSTEM")) {
                needSpace();
                readLiteral();
                return;
            }
            need("PUBLIC");
            needSpace();
            readPublicLiteral();
            if (skipSpace() && atQuote()) {
                readLiteral();
            } else if (!publicAlone) {
                fail(BADLY_WRITTEN);
            }
        }

        /** How a value is written; what it means is found by the entities. */
        void checkValue() {
            int quote = peek();
            if (!atQuote()) {
                fail(BADLY_WRITTEN);
                return;
            }
            pos++;
            for (int turn = 0; turn < MANY && fault == 0; turn++) {
                int c = peek();
                if (c == quote) {
                    pos++;
                    return;
                }
                if (c == NONE || c == '<') {
                    fail(BADLY_WRITTEN);
                } else if (c == '&') {
                    readReference();
                } else {
                    pos++;
                }
            }
        }

        /** How an entity's text is written: which & and % may stand in it. */
        void checkEntityText() {
            readLiteral();
            int from = inner;
            int size = innerSize;
            int behind = pos;
            pos = from;
            for (int turn = 0; turn < size && pos < from + size && fault == 0; turn++) {
                int c = chars[pos];
                if (c == '&') {
                    readReference();
                } else {
                    pos++;
                    if (c == '%') {
                        readName();
                        need(";");
                    }
                }
            }
            pos = behind;
        }
    }

    /** The entities declared, their texts when they are gone through, and what references mean. */
    private static final class Entities {
        private static final String PREDEFINED = "<>&'\"";

        private final Store store;
        private final Reader reader;
        private final int[] from;
        private final int[] size;
        private final boolean[] open;
        private int declarations;
        private final int[] general;
        private final int[] parameter;
        private final int[] framePos;
        private final int[] frameStop;
        private final int[] frameEntity;
        private final int[] frameElement;
        int depth;
        int counted;
        int missing;
        boolean standalone;
        boolean parameterSeen;

        Entities(Store store, Reader reader) {
            this.store = store;
            this.reader = reader;
            // The shortest declaration, <!ENTITY a "">, takes 14 characters; none is open twice.
            int most = store.room / 14 + 2;
            from = new int[most];
            size = new int[most];
            open = new boolean[most];
            framePos = new int[most];
            frameStop = new int[most];
            frameEntity = new int[most];
            frameElement = new int[most];
            general = new int[store.mark.length];
            parameter = new int[store.mark.length];
        }

        void forget(int words) {
            Arrays.fill(general, 0, words, 0);
            Arrays.fill(parameter, 0, words, 0);
            declarations = 0;
            depth = 0;
            missing = 0;
            standalone = false;
            parameterSeen = false;
        }

        void start() {
            counted = store.length;
        }

        /** Keeps what the literal at that place means, as the entity's text, if the name has none yet. */
        void declare(int word, boolean ofParameters, int literal, int literalSize) {
            int begin = store.top;
            int behind = reader.pos;
            reader.pos = literal;
            for (int turn = 0; turn < literalSize && reader.pos < literal + literalSize && reader.fault == 0; turn++) {
                int c = reader.peek();
                int at = reader.pos;
                if (c == '&') {
                    reader.readReference();
                    addReference(at);
                } else if (c == '%') {
                    reader.fail(PARAMETER_IN_TEXT);
                } else {
                    store.add(c);
                    reader.pos++;
                }
            }
            reader.pos = behind;
            int[] of = ofParameters ? parameter : general;
            if (of[word] != 0 || declarations >= from.length) {
                store.top = begin;
                return;
            }
            from[declarations] = begin;
            size[declarations] = store.top - begin;
            open[declarations] = false;
            declarations++;
            of[word] = declarations;
        }

        private void addReference(int at) {
            if (reader.code == NONE) {
                for (int i = at; i < reader.pos; i++) {
                    store.add(store.chars[i]);
                }
            } else if (Reader.isCharacter(reader.code)) {
                store.add(reader.code);
            } else {
                reader.fail(NO_CHARACTER);
            }
        }

        void enterParameter(int word) {
            int entity = word == NONE ? 0 : parameter[word];
            if (entity == 0) {
                reader.fail(NOT_DECLARED);
                return;
            }
            parameterSeen = true;
            enter(entity - 1, NONE);
        }

        /** The character that the reference read last means; NONE with a fault, with nothing, or within an entity's text. */
        int mean(int element) {
            if (reader.code != NONE) {
                if (Reader.isCharacter(reader.code)) {
                    return reader.code;
                }
                reader.fail(NO_CHARACTER);
                return NONE;
            }
            int word = store.find(reader.word, reader.wordSize);
            if (word >= Store.LT && word <= Store.QUOT) {
                return PREDEFINED.charAt(word - Store.LT);
            }
            int entity = word == NONE ? 0 : general[word];
            if (entity != 0) {
                enter(entity - 1, element);
            } else if (standalone || !parameterSeen) {
                reader.fail(NOT_DECLARED);
            } else {
                missing++;
            }
            return NONE;
        }

        private void enter(int entity, int element) {
            if (counted + size[entity] > store.room || depth >= framePos.length) {
                reader.fail(NO_ROOM);
                return;
            }
            if (open[entity]) {
                reader.fail(WITHIN_ITSELF);
                return;
            }
            counted += size[entity];
            open[entity] = true;
            framePos[depth] = reader.pos;
            frameStop[depth] = reader.stop;
            frameEntity[depth] = entity;
            frameElement[depth] = element;
            depth++;
            reader.pos = from[entity];
            reader.stop = from[entity] + size[entity];
        }

        /** The element that was open where the entity's text began. */
        int elementBefore() {
            return depth > 0 ? frameElement[depth - 1] : NONE;
        }

        void leave() {
            if (depth > 0) {
                depth--;
                open[frameEntity[depth]] = false;
                reader.pos = framePos[depth];
                reader.stop = frameStop[depth];
            }
        }

        /** Adds the value as written to the store, and answers where it begins there. How it is written was checked. */
        int readValue() {
            int begin = store.top;
            int quote = reader.peek();
            int bottom = depth;
            boolean within = true;
            reader.pos++;
            for (int turn = 0; turn < MANY && within && reader.fault == 0; turn++) {
                int c = reader.peek();
                if (c == NONE && depth > bottom) {
                    leave();
                } else if (c == NONE || c == quote && depth == bottom) {
                    reader.pos++;
                    within = false;
                } else if (c == '&') {
                    reader.readReference();
                    int meant = reader.fault == 0 ? mean(NONE) : NONE;
                    if (meant != NONE) {
                        store.add(meant);
                    }
                } else if (c == '<') {
                    reader.fail(TAG_IN_VALUE);
                } else {
                    store.add(Reader.isSpace(c) ? 32 : c);
                    reader.pos++;
                }
            }
            return begin;
        }

        /** The word that the value added from there on is for an attribute of such a type. */
        int keepValue(int begin, int type) {
            if (type != Store.CDATA) {
                int[] chars = store.chars;
                int to = begin;
                for (int i = begin; i < store.top; i++) {
                    if (chars[i] != 32 || to > begin && chars[to - 1] != 32) {
                        chars[to] = chars[i];
                        to++;
                    }
                }
                store.top = to > begin && chars[to - 1] == 32 ? to - 1 : to;
            }
            return store.internAdded(begin);
        }
    }

    /** What the declarations of elements, attributes and notations say; the first one of an attribute alone is kept. */
    private static final class Declared {
        static final int EMPTY = 0;
        static final int ANY = 1;
        static final int MIXED = 2;
        static final int MODEL = 3;
        static final int IMPLIED = 0;
        static final int REQUIRED = 1;
        static final int FIXED = 2;
        static final int GIVEN = 3;

        /** Of each declaration of an element, in order. */
        final int[] element;
        final int[] kind;
        final int[] source;
        int elementCount;
        /** By word: 0, or one more than the first declaration of that element. */
        final int[] elementOf;

        /** Of each attribute. */
        final int[] label;
        final int[] type;
        final int[] how;
        final int[] value;
        final int[] list;
        final int[] listSize;
        final int[] next;
        int attributeCount;
        /** By word: 0, or one more than the first attribute of that element. */
        final int[] firstOf;
        private int last;

        final int[] listed;
        int listedCount;
        final int[] notation;
        int notationsAgain;

        Declared(Store store) {
            // <!ELEMENT a ANY> takes 16 characters, an attribute such as a ID "" takes 8 with its space.
            int most = store.room / 16 + 2;
            element = new int[most];
            kind = new int[most];
            source = new int[most];
            most = store.room / 8 + 2;
            label = new int[most];
            type = new int[most];
            how = new int[most];
            value = new int[most];
            list = new int[most];
            listSize = new int[most];
            next = new int[most];
            listed = new int[store.room / 2 + 2];
            elementOf = new int[store.mark.length];
            firstOf = new int[store.mark.length];
            notation = new int[store.mark.length];
        }

        void forget(int words) {
            Arrays.fill(elementOf, 0, words, 0);
            Arrays.fill(firstOf, 0, words, 0);
            Arrays.fill(notation, 0, words, 0);
            elementCount = 0;
            attributeCount = 0;
            listedCount = 0;
            notationsAgain = 0;
        }

        void addElement(int word, int kindOf, int at) {
            if (elementCount >= element.length) {
                return;
            }
            element[elementCount] = word;
            kind[elementCount] = kindOf;
            source[elementCount] = at;
            elementCount++;
            if (elementOf[word] == 0) {
                elementOf[word] = elementCount;
            }
        }

        void addNotation(int word) {
            notationsAgain += notation[word];
            notation[word] = 1;
        }

        void addListed(int word) {
            if (listedCount < listed.length) {
                listed[listedCount] = word;
                listedCount++;
            }
        }

        /** The attribute's number, or NONE; leaves the last one of that element for the case that one is added. */
        int find(int elementWord, int word) {
            last = NONE;
            int a = firstOf[elementWord] - 1;
            for (int turn = 0; turn < attributeCount && a != NONE; turn++) {
                if (label[a] == word) {
                    return a;
                }
                last = a;
                a = next[a];
            }
            return NONE;
        }

        /** Its list is what was listed from there on; of a later declaration nothing stays. */
        void addAttribute(int elementWord, int word, int typeOf, int howOf, int valueWord, int listFrom) {
            int a = attributeCount;
            if (find(elementWord, word) != NONE || a >= label.length) {
                listedCount = listFrom;
                return;
            }
            label[a] = word;
            type[a] = typeOf;
            how[a] = howOf;
            value[a] = valueWord;
            list[a] = listFrom;
            listSize[a] = listedCount - listFrom;
            next[a] = NONE;
            if (last == NONE) {
                firstOf[elementWord] = a + 1;
            } else {
                next[last] = a;
            }
            attributeCount++;
        }

        boolean isEmpty(int elementWord) {
            int d = elementOf[elementWord] - 1;
            return d != NONE && kind[d] == EMPTY;
        }
    }

    /** Reads the declaration and what stands in its brackets. */
    private static final class Doctype {
        private static final int LISTED = Store.NOTATION + 1;
        private static final int MOST_NAMES = 255;
        private static final int MOST_DEEP = 60;

        private final Store store;
        private final Reader reader;
        private final Entities entities;
        private final Declared declared;
        private final byte[] separator;
        boolean seen;
        boolean open;
        int root;
        private int names;
        private int deepest;

        Doctype(Store store, Reader reader, Entities entities, Declared declared) {
            this.store = store;
            this.reader = reader;
            this.entities = entities;
            this.declared = declared;
            separator = new byte[Math.min(store.room, MOST_BYTES) + 1];
        }

        void forget() {
            seen = false;
            open = false;
        }

        void readBegin() {
            reader.need("<!DOCTYPE");
            reader.needSpace();
            int from = reader.readName();
            int size = reader.pos - from;
            boolean spaced = reader.skipSpace();
            boolean outside = spaced && (reader.at("SYSTEM") || reader.at("PUBLIC"));
            if (outside) {
                reader.readOutside(false);
                reader.skipSpace();
            }
            open = reader.skip("[");
            if (!open) {
                reader.need(">");
            }
            if (outside) {
                reader.fail(FROM_OUTSIDE);
            }
            seen = true;
            root = store.intern(from, size);
        }

        void readItem() {
            int c = reader.peek();
            if (Reader.isSpace(c)) {
                reader.skipSpace();
            } else if (c == '%') {
                readParameterReference();
            } else if (c == ']' && entities.depth == 0) {
                readEnd();
            } else if (reader.at("<!--")) {
                reader.readComment();
            } else if (reader.at("<?")) {
                reader.readInstruction();
            } else if (reader.at("<!ELEMENT")) {
                readElement();
            } else if (reader.at("<!ATTLIST")) {
                int from = reader.pos;
                readAttributes(false);
                if (reader.fault == 0) {
                    reader.pos = from;
                    readAttributes(true);
                }
            } else if (reader.at("<!ENTITY")) {
                readEntity();
            } else if (reader.at("<!NOTATION")) {
                readNotation();
            } else {
                reader.fail(OUT_OF_PLACE);
            }
        }

        private void readEnd() {
            reader.need("]");
            reader.skipSpace();
            reader.need(">");
            open = false;
        }

        private void readParameterReference() {
            reader.need("%");
            int from = reader.readName();
            int size = reader.pos - from;
            reader.need(";");
            if (reader.fault == 0) {
                entities.enterParameter(store.find(from, size));
            }
        }

        private void readElement() {
            reader.need("<!ELEMENT");
            reader.needSpace();
            int from = reader.readName();
            int size = reader.pos - from;
            reader.needSpace();
            int source = reader.pos;
            int kind = Declared.MODEL;
            if (reader.skip("EMPTY")) {
                kind = Declared.EMPTY;
            } else if (reader.skip("ANY")) {
                kind = Declared.ANY;
            } else {
                reader.need("(");
                reader.skipSpace();
                if (reader.skip("#PCDATA")) {
                    kind = Declared.MIXED;
                    readMixed();
                } else {
                    readModel();
                }
            }
            reader.skipSpace();
            reader.need(">");
            if (kind == Declared.MODEL && (names > MOST_NAMES || deepest > MOST_DEEP)) {
                reader.fail(NO_ROOM);
            }
            if (reader.fault == 0) {
                declared.addElement(store.intern(from, size), kind, source);
            }
        }

        /** Behind its #PCDATA. */
        private void readMixed() {
            boolean named = false;
            reader.skipSpace();
            for (int turn = 0; turn < MANY && reader.fault == 0 && reader.skip("|"); turn++) {
                reader.skipSpace();
                reader.readName();
                reader.skipSpace();
                named = true;
            }
            reader.need(")");
            if (!reader.skip("*") && named) {
                reader.fail(BADLY_WRITTEN);
            }
        }

        /** Behind its first bracket. */
        private void readModel() {
            int deep = 1;
            boolean due = true;
            names = 0;
            deepest = 1;
            separator[1] = 0;
            for (int turn = 0; turn < MANY && deep > 0 && reader.fault == 0; turn++) {
                reader.skipSpace();
                int c = reader.peek();
                if (due && c == '(' && deep + 1 < separator.length) {
                    reader.pos++;
                    deep++;
                    separator[deep] = 0;
                    deepest = Math.max(deepest, deep);
                } else if (due) {
                    reader.readName();
                    skipHowOften();
                    names++;
                    due = false;
                } else if (c == ')') {
                    reader.pos++;
                    skipHowOften();
                    deep--;
                } else if ((c == '|' || c == ',') && (separator[deep] == 0 || separator[deep] == c)) {
                    reader.pos++;
                    separator[deep] = (byte) c;
                    due = true;
                } else {
                    reader.fail(BADLY_WRITTEN);
                }
            }
        }

        private void skipHowOften() {
            int c = reader.peek();
            if (c == '?' || c == '*' || c == '+') {
                reader.pos++;
            }
        }

        /** Gone through twice: how it is written comes before what its values mean; only a real time changes things. */
        private void readAttributes(boolean real) {
            reader.need("<!ATTLIST");
            reader.needSpace();
            int name = reader.readName();
            int element = real ? store.intern(name, reader.pos - name) : NONE;
            for (int turn = 0; turn < MANY && reader.fault == 0; turn++) {
                boolean spaced = reader.skipSpace();
                if (reader.skip(">")) {
                    return;
                }
                if (!spaced) {
                    reader.fail(BADLY_WRITTEN);
                }
                int from = reader.readName();
                int size = reader.pos - from;
                reader.needSpace();
                int listFrom = declared.listedCount;
                int type = readType(real);
                reader.needSpace();
                int how = readHow();
                int value = NONE;
                if (how >= Declared.FIXED && real) {
                    int begin = entities.readValue();
                    value = reader.fault == 0 ? entities.keepValue(begin, type) : NONE;
                } else if (how >= Declared.FIXED) {
                    reader.checkValue();
                }
                if (real && reader.fault == 0) {
                    declared.addAttribute(element, store.intern(from, size), type, how, value, listFrom);
                }
            }
            reader.fail(BADLY_WRITTEN);
        }

        private int readType(boolean real) {
            if (reader.peek() == '(') {
                readList(real, false);
                return LISTED;
            }
            int from = reader.readName();
            int type = store.find(from, reader.pos - from);
            if (type < Store.CDATA || type > Store.NOTATION) {
                reader.fail(BADLY_WRITTEN);
            }
            if (type == Store.NOTATION) {
                reader.needSpace();
                readList(real, true);
            }
            return type;
        }

        private void readList(boolean real, boolean ofNames) {
            reader.need("(");
            boolean more = true;
            for (int turn = 0; turn < MANY && more && reader.fault == 0; turn++) {
                reader.skipSpace();
                int from = ofNames ? reader.readName() : reader.readToken();
                if (real) {
                    declared.addListed(store.intern(from, reader.pos - from));
                }
                reader.skipSpace();
                more = reader.skip("|");
            }
            reader.need(")");
        }

        private int readHow() {
            if (reader.skip("#REQUIRED")) {
                return Declared.REQUIRED;
            }
            if (reader.skip("#IMPLIED")) {
                return Declared.IMPLIED;
            }
            if (reader.skip("#FIXED")) {
                reader.needSpace();
                return Declared.FIXED;
            }
            return Declared.GIVEN;
        }

        private void readEntity() {
            reader.need("<!ENTITY");
            reader.needSpace();
            boolean ofParameters = reader.skip("%");
            if (ofParameters) {
                reader.needSpace();
            }
            int from = reader.readName();
            int size = reader.pos - from;
            reader.needSpace();
            boolean inside = reader.atQuote();
            if (inside) {
                reader.checkEntityText();
            } else {
                reader.readOutside(false);
                if (reader.skipSpace() && !ofParameters && reader.skip("NDATA")) {
                    reader.needSpace();
                    reader.readName();
                }
            }
            reader.skipSpace();
            reader.need(">");
            if (!inside) {
                reader.fail(FROM_OUTSIDE);
            }
            if (reader.fault == 0) {
                reader.lookForColon(from, size);
                entities.declare(store.intern(from, size), ofParameters, reader.inner, reader.innerSize);
            }
        }

        private void readNotation() {
            reader.need("<!NOTATION");
            reader.needSpace();
            int from = reader.readName();
            int size = reader.pos - from;
            reader.needSpace();
            reader.readOutside(true);
            reader.skipSpace();
            reader.need(">");
            if (reader.fault == 0) {
                reader.lookForColon(from, size);
                declared.addNotation(store.intern(from, size));
            }
        }
    }

    /** The document at hand: its elements and attributes, and the stream of what stands in and around them. */
    private static final class Tree {
        /** In the stream a character is itself; an element's begin is BEGIN less its number. */
        static final int END = -1;
        /** Four numbers follow: where the name begins, its size, where the rest begins, its size. */
        static final int INSTRUCTION = -2;
        static final int BEGIN = -3;

        static final int FILLED = 1;
        static final int WORDED = 2;
        static final int SECTIONED = 4;

        private final int most;
        private int nodes;
        int elements;
        int open;
        /** Of each element. */
        final int[] tag;
        final int[] above;
        final int[] first;
        final int[] all;
        final int[] given;
        final int[] content;
        /** Of each attribute. */
        int attributeCount;
        final int[] label;
        final int[] value;
        final int[] declaration;

        final int[] stream;
        int streamSize;
        int letters;

        Tree(int room, int most) {
            this.most = most;
            tag = new int[most];
            above = new int[most];
            first = new int[most];
            all = new int[most];
            given = new int[most];
            content = new int[most];
            label = new int[most];
            value = new int[most];
            declaration = new int[most];
            // Whatever stands in the stream takes no more of it than of counted characters.
            stream = new int[room];
            open = NONE;
        }

        void forget() {
            nodes = 0;
            elements = 0;
            attributeCount = 0;
            streamSize = 0;
            letters = 0;
            open = NONE;
        }

        boolean has(int e) {
            return e >= 0 && e < elements;
        }

        boolean tooMany() {
            return nodes > most;
        }

        private void put(int code) {
            if (streamSize < stream.length) {
                stream[streamSize] = code;
                streamSize++;
            }
        }

        /** What is beyond the limit is only counted: the fault that it makes comes when the tag has been read. */
        void beginElement(int word) {
            note(FILLED);
            nodes++;
            if (elements < most) {
                tag[elements] = word;
                above[elements] = open;
                first[elements] = attributeCount;
                all[elements] = 0;
                given[elements] = 0;
                content[elements] = 0;
                put(BEGIN - elements);
                open = elements;
                elements++;
            }
        }

        void addAttribute(int word, int valueWord, int declared, boolean inTag) {
            nodes++;
            if (attributeCount < most && open != NONE) {
                label[attributeCount] = word;
                value[attributeCount] = valueWord;
                declaration[attributeCount] = declared;
                attributeCount++;
                all[open]++;
                if (inTag) {
                    given[open]++;
                }
            }
        }

        void endElement() {
            if (open != NONE) {
                put(END);
                open = above[open];
            }
        }

        void addCharacter(int c) {
            put(c);
            letters++;
        }

        void addInstruction(int from, int size, int rest, int restSize) {
            note(FILLED);
            nodes++;
            put(INSTRUCTION);
            put(from);
            put(size);
            put(rest);
            put(restSize);
        }

        /** Notes what stands in the open element. */
        void note(int what) {
            if (open != NONE) {
                content[open] |= what;
            }
        }
    }

    /** Reads the text: what is around the root, and the root. */
    private static final class Content {
        private final Store store;
        private final Reader reader;
        private final Entities entities;
        private final Declared declared;
        private final Doctype doctype;
        private final Tree tree;

        Content(Store store, Reader reader, Entities entities, Declared declared, Doctype doctype, Tree tree) {
            this.store = store;
            this.reader = reader;
            this.entities = entities;
            this.declared = declared;
            this.doctype = doctype;
            this.tree = tree;
        }

        void readAll() {
            if (reader.at("<?xml") && reader.stop - reader.pos > 5 && Reader.isSpace(store.chars[reader.pos + 5])) {
                readHead();
            }
            boolean more = true;
            for (int turn = 0; turn < MANY && more && reader.fault == 0; turn++) {
                if (entities.depth == 0) {
                    reader.place = reader.pos - store.begin;
                }
                if (reader.pos >= reader.stop) {
                    more = finish();
                } else if (doctype.open) {
                    doctype.readItem();
                } else if (tree.open != NONE ? isTagInside() : isTagAround()) {
                    int from = reader.pos;
                    readTag(false);
                    if (reader.fault == 0) {
                        reader.pos = from;
                        readTag(true);
                    }
                }
            }
        }

        /** At the end of the text, or of an entity's; answers whether something comes behind it. */
        private boolean finish() {
            if (entities.depth == 0) {
                if (doctype.open || tree.open != NONE || tree.elements == 0) {
                    reader.fail(OUT_OF_PLACE);
                }
                return false;
            }
            if (tree.open != entities.elementBefore()) {
                reader.fail(TORN);
            }
            entities.leave();
            return true;
        }

        private void readHead() {
            reader.need("<?xml");
            reader.needSpace();
            int quote = readQuoteOf("version");
            reader.need("1.");
            readLetters(false);
            readQuote(quote);
            boolean spaced = reader.skipSpace();
            int from = NONE;
            int size = 0;
            if (spaced && reader.at("encoding")) {
                quote = readQuoteOf("encoding");
                from = reader.pos;
                if (!Reader.isLetter(reader.peek())) {
                    reader.fail(BADLY_WRITTEN);
                }
                readLetters(true);
                size = reader.pos - from;
                readQuote(quote);
                spaced = reader.skipSpace();
            }
            if (spaced && reader.at("standalone")) {
                quote = readQuoteOf("standalone");
                entities.standalone = reader.skip("yes");
                if (!entities.standalone) {
                    reader.need("no");
                }
                readQuote(quote);
                reader.skipSpace();
            }
            reader.need("?>");
            if (from != NONE && !reader.isWrittenAs(from, size, store.wide ? "utf-16" : "utf-8")) {
                reader.fail(OTHER_ENCODING);
            }
        }

        private int readQuoteOf(String part) {
            reader.need(part);
            reader.skipSpace();
            reader.need("=");
            reader.skipSpace();
            int quote = reader.peek();
            if (!reader.atQuote()) {
                reader.fail(BADLY_WRITTEN);
            }
            reader.pos++;
            return quote;
        }

        private void readQuote(int quote) {
            if (reader.peek() != quote) {
                reader.fail(BADLY_WRITTEN);
            }
            reader.pos++;
        }

        /** Digits, one at least, or all that an encoding's name is made of. */
        private void readLetters(boolean all) {
            int from = reader.pos;
            for (int i = from; i < reader.stop; i++) {
                int c = store.chars[i];
                if (!Reader.isDigit(c) && !(all && (Reader.isLetter(c) || c == '.' || c == '_' || c == '-'))) {
                    break;
                }
                reader.pos++;
            }
            if (reader.pos == from) {
                reader.fail(BADLY_WRITTEN);
            }
        }

        /** Reads any other item, but leaves a tag, that may stand there, to the caller. */
        private boolean isTagAround() {
            boolean behind = tree.elements > 0;
            if (Reader.isSpace(reader.peek())) {
                reader.skipSpace();
            } else if (reader.at("<!--")) {
                reader.readComment();
            } else if (reader.at("<?")) {
                readInstruction();
            } else if (behind || reader.peek() != '<' || reader.at("</") || reader.at("<![CDATA[")) {
                reader.fail(OUT_OF_PLACE);
            } else if (!reader.at("<!DOCTYPE")) {
                return true;
            } else if (doctype.seen) {
                reader.fail(OUT_OF_PLACE);
            } else {
                doctype.readBegin();
            }
            return false;
        }

        private boolean isTagInside() {
            int c = reader.peek();
            if (c == '&') {
                readReference();
            } else if (c != '<') {
                readRun();
            } else if (reader.at("</")) {
                readEnd();
            } else if (reader.at("<!--")) {
                tree.note(Tree.FILLED);
                reader.readComment();
            } else if (reader.at("<?")) {
                readInstruction();
            } else if (reader.at("<![CDATA[")) {
                readSection();
            } else if (reader.at("<!DOCTYPE")) {
                reader.fail(OUT_OF_PLACE);
            } else {
                return true;
            }
            return false;
        }

        private void readInstruction() {
            reader.readInstruction();
            tree.addInstruction(reader.word, reader.wordSize, reader.inner, reader.innerSize);
            if (tree.tooMany()) {
                reader.fail(NO_ROOM);
            }
        }

        private void readReference() {
            reader.readReference();
            if (reader.fault != 0) {
                return;
            }
            tree.note(Tree.FILLED);
            int c = entities.mean(tree.open);
            if (c != NONE) {
                tree.note(Tree.WORDED);
                tree.addCharacter(c);
            }
        }

        private void readRun() {
            int from = reader.pos;
            reader.readRun();
            tree.note(Tree.FILLED);
            for (int i = from; i < reader.pos; i++) {
                int c = store.chars[i];
                if (!Reader.isSpace(c)) {
                    tree.note(Tree.WORDED);
                }
                tree.addCharacter(c);
            }
        }

        private void readSection() {
            reader.readSection();
            tree.note(Tree.FILLED | Tree.SECTIONED);
            for (int i = reader.inner; i < reader.inner + reader.innerSize && reader.fault == 0; i++) {
                tree.addCharacter(store.chars[i]);
            }
        }

        private void readEnd() {
            reader.need("</");
            int from = reader.readName();
            int size = reader.pos - from;
            reader.skipSpace();
            reader.need(">");
            if (store.find(from, size) != tree.tag[tree.open]) {
                reader.fail(OTHER_END);
            }
            if (tree.open == entities.elementBefore()) {
                reader.fail(TORN);
            }
            tree.endElement();
        }

        /** Gone through twice: how it is written comes before what its values mean; only a real time changes things. */
        private void readTag(boolean real) {
            reader.need("<");
            int name = reader.readName();
            int element = real ? store.intern(name, reader.pos - name) : NONE;
            int mark = real ? store.newMark() : 0;
            if (real) {
                tree.beginElement(element);
            }
            boolean spaced = reader.skipSpace();
            for (int turn = 0; turn < MANY && reader.fault == 0 && !reader.at(">") && !reader.at("/"); turn++) {
                if (!spaced) {
                    reader.fail(BADLY_WRITTEN);
                }
                int from = reader.readName();
                int word = real ? store.intern(from, reader.pos - from) : NONE;
                if (real && store.mark[word] == mark) {
                    reader.fail(TWICE);
                }
                reader.skipSpace();
                reader.need("=");
                reader.skipSpace();
                if (!real) {
                    reader.checkValue();
                } else if (reader.fault == 0) {
                    store.mark[word] = mark;
                    int declaration = declared.find(element, word);
                    int begin = entities.readValue();
                    int value = entities.keepValue(begin, declaration == NONE ? Store.CDATA : declared.type[declaration]);
                    tree.addAttribute(word, value, declaration, true);
                }
                spaced = reader.skipSpace();
            }
            boolean ended = reader.skip("/");
            reader.need(">");
            if (real && reader.fault == 0) {
                finishTag(element, mark, ended);
            }
        }

        private void finishTag(int element, int mark, boolean ended) {
            int a = declared.firstOf[element] - 1;
            for (int turn = 0; turn < declared.attributeCount && a != NONE; turn++) {
                if (declared.how[a] >= Declared.FIXED && store.mark[declared.label[a]] != mark) {
                    tree.addAttribute(declared.label[a], declared.value[a], a, false);
                }
                a = declared.next[a];
            }
            if (tree.tooMany()) {
                reader.fail(NO_ROOM);
            }
            if (ended) {
                tree.endElement();
            }
        }
    }

    /** A model as the set of names that may come first, and behind each name; at most 255 names, 60 groups deep. */
    private static final class Model {
        private static final int WIDTH = 8;
        private static final int MOST = 32 * WIDTH;
        private static final int LEVELS = 64;

        private final Store store;
        private final Reader reader;
        private final int[] names;
        private int count;
        private final int[] follow;
        /** Of each group that is open, of what was read of it; behind the last one, of the part read last. */
        private final int[] first;
        private final int[] last;
        private final boolean[] skippable;
        private final boolean[] begun;
        private final int[] separator;
        private final int[] may;
        private final int[] then;
        private boolean complete;

        Model(Store store, Reader reader) {
            this.store = store;
            this.reader = reader;
            names = new int[MOST];
            follow = new int[MOST * WIDTH];
            first = new int[LEVELS * WIDTH];
            last = new int[LEVELS * WIDTH];
            skippable = new boolean[LEVELS];
            begun = new boolean[LEVELS];
            separator = new int[LEVELS];
            may = new int[WIDTH];
            then = new int[WIDTH];
        }

        /** Reads the model that stands there, and is written as it must be. */
        void read(int source) {
            reader.pos = source;
            reader.stop = store.top;
            count = 0;
            begun[0] = false;
            int deep = 0;
            for (int turn = 0; turn < MANY && !begun[0] && reader.pos < reader.stop; turn++) {
                int c = reader.peek();
                if (c == '(' && deep < LEVELS - 2) {
                    reader.pos++;
                    deep++;
                    begun[deep] = false;
                } else if (c == ')' && deep > 0) {
                    reader.pos++;
                    readHowOften(deep);
                    deep--;
                    join(deep);
                } else if (c == '|' || c == ',' || Reader.isSpace(c)) {
                    reader.pos++;
                    separator[deep] = Reader.isSpace(c) ? separator[deep] : c;
                } else {
                    readOccurrence(deep + 1);
                    join(deep);
                }
            }
        }

        private void readOccurrence(int level) {
            int from = reader.readName();
            int p = Math.min(count, MOST - 1);
            names[p] = store.intern(from, reader.pos - from);
            count = p + 1;
            Arrays.fill(follow, p * WIDTH, p * WIDTH + WIDTH, 0);
            Arrays.fill(first, level * WIDTH, level * WIDTH + WIDTH, 0);
            first[level * WIDTH + (p >> 5)] = 1 << (p & 31);
            System.arraycopy(first, level * WIDTH, last, level * WIDTH, WIDTH);
            skippable[level] = false;
            readHowOften(level);
        }

        private void readHowOften(int level) {
            boolean star = reader.skip("*");
            if (star || reader.skip("+")) {
                followAll(level, level);
            }
            if (star || reader.skip("?")) {
                skippable[level] = true;
            }
        }

        /** All that may be last on one level can have behind it what may be first on another. */
        private void followAll(int before, int behind) {
            for (int p = 0; p < count; p++) {
                if (has(last, before, p)) {
                    unite(follow, p, first, behind);
                }
            }
        }

        private static boolean has(int[] rows, int row, int p) {
            return (rows[row * WIDTH + (p >> 5)] >>> (p & 31) & 1) != 0;
        }

        private static void unite(int[] rows, int row, int[] others, int other) {
            for (int i = 0; i < WIDTH; i++) {
                rows[row * WIDTH + i] |= others[other * WIDTH + i];
            }
        }

        /** The part one level deeper comes to what its group has. */
        private void join(int level) {
            int part = level + 1;
            if (!begun[level]) {
                System.arraycopy(first, part * WIDTH, first, level * WIDTH, WIDTH);
                System.arraycopy(last, part * WIDTH, last, level * WIDTH, WIDTH);
                skippable[level] = skippable[part];
                begun[level] = true;
            } else if (separator[level] == '|') {
                unite(first, level, first, part);
                unite(last, level, last, part);
                skippable[level] |= skippable[part];
            } else {
                followAll(level, part);
                if (skippable[level]) {
                    unite(first, level, first, part);
                }
                if (!skippable[part]) {
                    Arrays.fill(last, level * WIDTH, level * WIDTH + WIDTH, 0);
                }
                unite(last, level, last, part);
                skippable[level] &= skippable[part];
            }
        }

        boolean isDeterministic() {
            boolean so = isSingle(first, 0);
            for (int p = 0; p < count && so; p++) {
                so = isSingle(follow, p);
            }
            return so;
        }

        /** Whether no name stands in the row twice. */
        private boolean isSingle(int[] rows, int row) {
            int mark = store.newMark();
            for (int p = 0; p < count; p++) {
                if (has(rows, row, p)) {
                    if (store.mark[names[p]] == mark) {
                        return false;
                    }
                    store.mark[names[p]] = mark;
                }
            }
            return true;
        }

        void begin() {
            System.arraycopy(first, 0, may, 0, WIDTH);
            complete = skippable[0];
        }

        /** One name more; answers whether it may stand there. All ways are kept, as the model need not be deterministic. */
        boolean accept(int word) {
            boolean any = false;
            complete = false;
            Arrays.fill(then, 0);
            for (int p = 0; p < count; p++) {
                if (names[p] == word && has(may, 0, p)) {
                    any = true;
                    complete |= has(last, 0, p);
                    unite(then, 0, follow, p);
                }
            }
            System.arraycopy(then, 0, may, 0, WIDTH);
            return any;
        }

        boolean isComplete() {
            return complete;
        }
    }

    /** Counts the violations of the constraints of validity. */
    private static final class Validator {
        static final int CONSTRAINTS = 23;

        private final Store store;
        private final Reader reader;
        private final Entities entities;
        private final Declared declared;
        private final Doctype doctype;
        private final Tree tree;
        private final Model model;
        final int[] counts;
        /** Of each element: the first one in it, the next one in the same, the next one of the same name. */
        private final int[] child;
        private final int[] sibling;
        private final int[] alike;
        /** By declaration of an element, the first element of that name; by attribute, how often its value came by default. */
        private final int[] firstAlike;
        private final int[] applied;
        private int identityMark;

        Validator(Store store, Reader reader, Entities entities, Declared declared, Doctype doctype, Tree tree, Model model) {
            this.store = store;
            this.reader = reader;
            this.entities = entities;
            this.declared = declared;
            this.doctype = doctype;
            this.tree = tree;
            this.model = model;
            counts = new int[CONSTRAINTS];
            child = new int[tree.tag.length];
            sibling = new int[tree.tag.length];
            alike = new int[tree.tag.length];
            firstAlike = new int[declared.element.length];
            applied = new int[declared.label.length];
        }

        int sum() {
            int sum = 0;
            for (int k = 0; k < CONSTRAINTS; k++) {
                sum += counts[k] > 0 ? 1 : 0;
            }
            return sum;
        }

        void countAll() {
            Arrays.fill(counts, 0);
            if (!doctype.seen) {
                counts[0] = 1;
                return;
            }
            counts[1] = tree.tag[0] == doctype.root ? 0 : 1;
            counts[20] = declared.notationsAgain;
            counts[22] = entities.missing;
            link();
            countElements();
            countTags();
            countIdentities();
            countReferences();
            countAttributes();
        }

        private void link() {
            Arrays.fill(child, 0, tree.elements, NONE);
            Arrays.fill(firstAlike, 0, declared.elementCount, NONE);
            for (int e = tree.elements - 1; e >= 0; e--) {
                int above = tree.above[e];
                if (above != NONE) {
                    sibling[e] = child[above];
                    child[above] = e;
                }
                int d = declared.elementOf[tree.tag[e]] - 1;
                if (d == NONE) {
                    counts[5]++;
                } else {
                    alike[e] = firstAlike[d];
                    firstAlike[d] = e;
                }
            }
        }

        /** 2, 3, 4 and 6: each declaration with all elements of its name. */
        private void countElements() {
            for (int d = 0; d < declared.elementCount; d++) {
                boolean later = declared.elementOf[declared.element[d]] - 1 != d;
                counts[2] += later ? 1 : 0;
                int mark = NONE;
                if (declared.kind[d] == Declared.MIXED) {
                    mark = markMixed(declared.source[d]);
                } else if (declared.kind[d] == Declared.MODEL) {
                    model.read(declared.source[d]);
                    counts[4] += model.isDeterministic() ? 0 : 1;
                }
                int e = later ? NONE : firstAlike[d];
                for (int turn = 0; turn < tree.elements && e != NONE; turn++) {
                    counts[6] += fits(e, declared.kind[d], mark) ? 0 : 1;
                    e = alike[e];
                }
            }
        }

        /** Marks the names of the group, with a mark that is answered. */
        private int markMixed(int source) {
            int mark = store.newMark();
            reader.pos = source;
            reader.stop = store.top;
            for (int turn = 0; turn < MANY && !reader.at(")") && reader.pos < reader.stop; turn++) {
                boolean named = reader.skip("|");
                reader.pos += named ? 0 : 1;
                if (named) {
                    reader.skipSpace();
                    int from = reader.readName();
                    int word = store.intern(from, reader.pos - from);
                    counts[3] += store.mark[word] == mark ? 1 : 0;
                    store.mark[word] = mark;
                }
            }
            return mark;
        }

        private boolean fits(int e, int kind, int mark) {
            int inside = tree.content[e];
            if (kind == Declared.EMPTY) {
                return inside == 0;
            }
            if (kind == Declared.MODEL) {
                if ((inside & (Tree.WORDED | Tree.SECTIONED)) != 0) {
                    return false;
                }
                model.begin();
            }
            boolean fit = true;
            int c = child[e];
            for (int turn = 0; turn < tree.elements && c != NONE && fit; turn++) {
                int word = tree.tag[c];
                fit = kind == Declared.MODEL ? model.accept(word)
                    : kind == Declared.MIXED ? store.mark[word] == mark : declared.elementOf[word] != 0;
                c = sibling[c];
            }
            return fit && (kind != Declared.MODEL || model.isComplete());
        }

        /** 7 to 10: what stands in tags, and what does not. */
        private void countTags() {
            for (int e = 0; e < tree.elements; e++) {
                int mark = store.newMark();
                for (int i = 0; i < tree.given[e]; i++) {
                    int a = tree.first[e] + i;
                    int d = tree.declaration[a];
                    int value = tree.value[a];
                    store.mark[tree.label[a]] = mark;
                    if (d == NONE) {
                        counts[7]++;
                    } else {
                        counts[8] += isAsWanted(value, d) ? 0 : 1;
                        counts[10] += declared.how[d] == Declared.FIXED && declared.value[d] != value ? 1 : 0;
                    }
                }
                int d = declared.firstOf[tree.tag[e]] - 1;
                for (int turn = 0; turn < declared.attributeCount && d != NONE; turn++) {
                    boolean wanted = declared.how[d] == Declared.REQUIRED && store.mark[declared.label[d]] != mark;
                    counts[9] += wanted ? 1 : 0;
                    d = declared.next[d];
                }
            }
        }

        private boolean isAsWanted(int value, int d) {
            switch (declared.type[d]) {
                case Store.CDATA:
                    return true;
                case Store.ID:
                case Store.IDREF:
                case Store.ENTITY:
                    return isMadeOf(value, true, false);
                case Store.IDREFS:
                case Store.ENTITIES:
                    return isMadeOf(value, true, true);
                case Store.NMTOKEN:
                    return isMadeOf(value, false, false);
                case Store.NMTOKENS:
                    return isMadeOf(value, false, true);
                default:
                    return isListed(value, d);
            }
        }

        private boolean isListed(int value, int d) {
            int from = declared.list[d];
            for (int i = from; i < from + declared.listSize[d]; i++) {
                if (declared.listed[i] == value) {
                    return true;
                }
            }
            return false;
        }

        /** Whether a value is a name or token, or several with one 32 between. */
        private boolean isMadeOf(int value, boolean names, boolean several) {
            int size = store.size[value];
            boolean begins = true;
            for (int i = 0; i < size; i++) {
                int c = store.letter(value, i);
                if (c == 32 && several && !begins) {
                    begins = true;
                } else if (!Reader.isNameCharacter(c) || begins && names && Reader.isNoStart(c)) {
                    return false;
                } else {
                    begins = false;
                }
            }
            return !begins;
        }

        /** 11; leaves the values of type ID marked, and how often each value came by default. */
        private void countIdentities() {
            identityMark = store.newMark();
            Arrays.fill(applied, 0, declared.attributeCount, 0);
            for (int e = 0; e < tree.elements; e++) {
                for (int i = 0; i < tree.all[e]; i++) {
                    int a = tree.first[e] + i;
                    int d = tree.declaration[a];
                    if (d != NONE && declared.type[d] == Store.ID) {
                        int value = tree.value[a];
                        counts[11] += store.mark[value] == identityMark ? 1 : 0;
                        store.mark[value] = identityMark;
                    }
                    if (d != NONE && i >= tree.given[e]) {
                        applied[d]++;
                    }
                }
            }
        }

        /** 12 and 21. A value that came by default is looked at once, as it may be long and have come often. */
        private void countReferences() {
            for (int e = 0; e < tree.elements; e++) {
                for (int i = 0; i < tree.given[e]; i++) {
                    int a = tree.first[e] + i;
                    int d = tree.declaration[a];
                    if (d != NONE) {
                        countWords(tree.value[a], declared.type[d], 1);
                    }
                }
            }
            for (int d = 0; d < declared.attributeCount; d++) {
                if (applied[d] > 0) {
                    countWords(declared.value[d], declared.type[d], applied[d]);
                }
            }
        }

        private void countWords(int value, int type, int times) {
            boolean identities = type == Store.IDREF || type == Store.IDREFS;
            boolean ofEntities = type == Store.ENTITY || type == Store.ENTITIES;
            if (!identities && !ofEntities) {
                return;
            }
            int behind = store.from[value] + store.size[value];
            int from = store.from[value];
            for (int i = from; i <= behind; i++) {
                if (i == behind || store.chars[i] == 32) {
                    if (i > from && ofEntities) {
                        counts[21] += times;
                    } else if (i > from) {
                        int word = store.find(from, i - from);
                        counts[12] += word != NONE && store.mark[word] == identityMark ? 0 : times;
                    }
                    from = i + 1;
                }
            }
        }

        /** 13 to 19. */
        private void countAttributes() {
            for (int element = 0; element < store.words; element++) {
                int d = declared.firstOf[element] - 1;
                int identities = 0;
                int notations = 0;
                for (int turn = 0; turn < declared.attributeCount && d != NONE; turn++) {
                    int type = declared.type[d];
                    boolean valued = declared.how[d] >= Declared.FIXED;
                    counts[15] += valued && !isAsWanted(declared.value[d], d) ? 1 : 0;
                    if (type == Store.ID) {
                        counts[13] += identities;
                        counts[14] += valued ? 1 : 0;
                        identities = 1;
                    }
                    if (type == Store.NOTATION) {
                        counts[17] += notations;
                        counts[18] += declared.isEmpty(element) ? 1 : 0;
                        notations = 1;
                    }
                    countListed(d, type == Store.NOTATION);
                    d = declared.next[d];
                }
            }
        }

        private void countListed(int d, boolean ofNotations) {
            int mark = store.newMark();
            int from = declared.list[d];
            for (int i = from; i < from + declared.listSize[d]; i++) {
                int word = declared.listed[i];
                counts[16] += ofNotations && declared.notation[word] == 0 ? 1 : 0;
                counts[19] += store.mark[word] == mark ? 1 : 0;
                store.mark[word] = mark;
            }
        }
    }

    /** What prefixes mean, and the violations of namespaces. */
    private static final class Meanings {
        static final int CONSTRAINTS = 6;
        private static final int NO_QNAME = -1;

        private final Store store;
        private final Tree tree;
        /** By word: one more than its prefix, NO_QNAME, or 0 if that was not looked at yet. */
        private final int[] prefixOf;
        private final int[] localOf;
        /** By prefix: what it means at the element that was entered last. */
        private final int[] meant;
        /** By attribute that is a declaration: what its prefix means outside its element. */
        private final int[] outside;
        final int[] counts;
        /** Whether a namespace declaration has a value that does not begin as it must for canonical bytes. */
        boolean relative;

        Meanings(Store store, Tree tree) {
            this.store = store;
            this.tree = tree;
            prefixOf = new int[store.mark.length];
            localOf = new int[store.mark.length];
            meant = new int[store.mark.length];
            outside = new int[tree.label.length];
            counts = new int[CONSTRAINTS];
        }

        void forget(int words) {
            Arrays.fill(prefixOf, 0, words, 0);
            Arrays.fill(meant, 0, words, 0);
            meant[Store.XML] = Store.XML_MEANS;
        }

        int sum() {
            int sum = 0;
            for (int k = 0; k < CONSTRAINTS; k++) {
                sum += counts[k] > 0 ? 1 : 0;
            }
            return sum;
        }

        void countAll(int colons) {
            Arrays.fill(counts, 0);
            counts[5] = colons;
            relative = false;
            splitAll();
            int mark = store.newMark();
            int open = NONE;
            for (int i = 0; i < tree.streamSize; i++) {
                int code = tree.stream[i];
                if (code == Tree.INSTRUCTION) {
                    i += 4;
                } else if (code == Tree.END && open != NONE) {
                    leave(open);
                    open = tree.above[open];
                } else if (code <= Tree.BEGIN) {
                    open = Tree.BEGIN - code;
                    enter(open);
                    countNames(open);
                    countDeclarations(open, mark);
                }
            }
        }

        private void splitAll() {
            for (int e = 0; e < tree.elements; e++) {
                split(tree.tag[e]);
            }
            for (int a = 0; a < tree.attributeCount; a++) {
                split(tree.label[a]);
            }
        }

        private void split(int word) {
            if (prefixOf[word] != 0) {
                return;
            }
            int size = store.size[word];
            int colon = NONE;
            int found = 0;
            for (int i = 0; i < size; i++) {
                if (store.letter(word, i) == ':') {
                    colon = i;
                    found++;
                }
            }
            prefixOf[word] = NO_QNAME;
            localOf[word] = word;
            if (found == 0) {
                prefixOf[word] = Store.NOTHING + 1;
            } else if (found == 1 && colon > 0 && colon < size - 1 && !Reader.isNoStart(store.letter(word, colon + 1))) {
                prefixOf[word] = store.intern(store.from[word], colon) + 1;
                localOf[word] = store.intern(store.from[word] + colon + 1, size - colon - 1);
            }
        }

        private int prefix(int word) {
            return prefixOf[word] == NO_QNAME ? Store.NOTHING : prefixOf[word] - 1;
        }

        /** The prefix that the attribute declares, NOTHING for no prefix; NONE if it is no namespace declaration. */
        int declares(int a) {
            int word = tree.label[a];
            if (word == Store.XMLNS) {
                return Store.NOTHING;
            }
            return prefix(word) == Store.XMLNS ? localOf[word] : NONE;
        }

        /** Whether the attribute declares what holds outside its element anyway. */
        boolean isIdle(int a) {
            return tree.value[a] == outside[a];
        }

        int meaning(int a) {
            int prefix = prefix(tree.label[a]);
            return prefix == Store.NOTHING ? Store.NOTHING : meant[prefix];
        }

        int local(int a) {
            return localOf[tree.label[a]];
        }

        void enter(int e) {
            for (int a = tree.first[e]; a < tree.first[e] + tree.all[e]; a++) {
                int prefix = declares(a);
                if (prefix != NONE) {
                    outside[a] = meant[prefix];
                    if (prefix != Store.XML && prefix != Store.XMLNS) {
                        meant[prefix] = tree.value[a];
                    }
                }
            }
        }

        void leave(int e) {
            for (int a = tree.first[e]; a < tree.first[e] + tree.all[e]; a++) {
                int prefix = declares(a);
                if (prefix != NONE) {
                    meant[prefix] = outside[a];
                }
            }
        }

        /** 0, 1, 2 and 4. */
        private void countNames(int e) {
            countName(tree.tag[e]);
            counts[4] += prefix(tree.tag[e]) == Store.XMLNS ? 1 : 0;
            for (int a = tree.first[e]; a < tree.first[e] + tree.all[e]; a++) {
                countName(tree.label[a]);
                if (meaning(a) != Store.NOTHING && hasBefore(e, a)) {
                    counts[2]++;
                }
            }
        }

        private void countName(int word) {
            int prefix = prefix(word);
            counts[0] += prefixOf[word] == NO_QNAME ? 1 : 0;
            counts[1] += prefix != Store.NOTHING && prefix != Store.XMLNS && meant[prefix] == Store.NOTHING ? 1 : 0;
        }

        private boolean hasBefore(int e, int a) {
            for (int b = tree.first[e]; b < a; b++) {
                if (local(b) == local(a) && meaning(b) == meaning(a)) {
                    return true;
                }
            }
            return false;
        }

        /** 3. Each value is looked at once. */
        private void countDeclarations(int e, int mark) {
            for (int a = tree.first[e]; a < tree.first[e] + tree.all[e]; a++) {
                int prefix = declares(a);
                int value = tree.value[a];
                if (prefix == NONE) {
                    continue;
                }
                if (prefix == Store.XMLNS || value == Store.XMLNS_MEANS || prefix == Store.XML != (value == Store.XML_MEANS)
                    || prefix != Store.NOTHING && value == Store.NOTHING) {
                    counts[3]++;
                }
                if (value != Store.NOTHING && store.mark[value] != mark) {
                    store.mark[value] = mark;
                    relative |= !isAbsolute(value);
                }
            }
        }

        private boolean isAbsolute(int value) {
            if (!Reader.isLetter(store.letter(value, 0))) {
                return false;
            }
            for (int i = 1; i < store.size[value]; i++) {
                int c = store.letter(value, i);
                if (c == ':') {
                    return true;
                }
                if (!Reader.isLetter(c) && !Reader.isDigit(c) && c != '+' && c != '-' && c != '.') {
                    return false;
                }
            }
            return false;
        }
    }

    /** Writes the canonical bytes. */
    private static final class Writer {
        private final Store store;
        private final Tree tree;
        private final Meanings meanings;
        byte[] product;
        int size;
        /** Written first, as a product that would be too long leaves the old one. */
        private byte[] draft;
        private int drafted;
        private boolean full;
        private int open;
        private boolean behind;
        private final int[] order;

        Writer(Store store, Tree tree, Meanings meanings) {
            this.store = store;
            this.tree = tree;
            this.meanings = meanings;
            product = new byte[MOST_PRODUCT];
            draft = new byte[MOST_PRODUCT];
            order = new int[tree.label.length];
        }

        /** Answers whether there is a new product. */
        boolean write() {
            drafted = 0;
            full = false;
            behind = false;
            open = NONE;
            for (int i = 0; i < tree.streamSize && !full; i++) {
                int code = tree.stream[i];
                if (code >= 0) {
                    putCharacter(code, false);
                } else if (code == Tree.INSTRUCTION) {
                    putInstruction(i + 1);
                    i += 4;
                } else if (code == Tree.END) {
                    putEnd();
                } else {
                    putBegin(Tree.BEGIN - code);
                }
            }
            for (int turn = 0; turn < tree.elements && open != NONE; turn++) {
                putEnd();
            }
            if (!full) {
                byte[] old = product;
                product = draft;
                draft = old;
                size = drafted;
            }
            return !full;
        }

        private void putBegin(int e) {
            meanings.enter(e);
            open = e;
            behind = true;
            put('<');
            putWord(tree.tag[e]);
            int n = 0;
            for (int a = tree.first[e]; a < tree.first[e] + tree.all[e]; a++) {
                if (meanings.declares(a) == NONE || !meanings.isIdle(a)) {
                    order[n] = a;
                    n++;
                }
            }
            sort(n);
            for (int i = 0; i < n && !full; i++) {
                put(' ');
                putWord(tree.label[order[i]]);
                putText("=\"");
                putValue(tree.value[order[i]]);
                put('"');
            }
            put('>');
        }

        private void putEnd() {
            if (open != NONE) {
                putText("</");
                putWord(tree.tag[open]);
                put('>');
                meanings.leave(open);
                open = tree.above[open];
            }
        }

        private void putInstruction(int at) {
            int[] row = tree.stream;
            if (open == NONE && behind) {
                put(10);
            }
            putText("<?");
            for (int i = row[at]; i < row[at] + row[at + 1]; i++) {
                putBytes(store.chars[i]);
            }
            int rest = row[at + 2];
            int behindRest = rest + row[at + 3];
            if (behindRest > rest) {
                put(' ');
            }
            for (int i = rest; i < behindRest && !full; i++) {
                if (store.chars[i] == 13) {
                    putText("&#xD;");
                } else {
                    putBytes(store.chars[i]);
                }
            }
            putText("?>");
            if (!behind) {
                put(10);
            }
        }

        private void putWord(int word) {
            for (int i = 0; i < store.size[word] && !full; i++) {
                putBytes(store.letter(word, i));
            }
        }

        private void putValue(int word) {
            for (int i = 0; i < store.size[word] && !full; i++) {
                putCharacter(store.letter(word, i), true);
            }
        }

        private void putCharacter(int c, boolean inValue) {
            if (c == '&') {
                putText("&amp;");
            } else if (c == '<') {
                putText("&lt;");
            } else if (c == 13) {
                putText("&#xD;");
            } else if (c == '>' && !inValue) {
                putText("&gt;");
            } else if (c == '"' && inValue) {
                putText("&quot;");
            } else if (c == 9 && inValue) {
                putText("&#x9;");
            } else if (c == 10 && inValue) {
                putText("&#xA;");
            } else {
                putBytes(c);
            }
        }

        private void putText(String s) {
            for (int i = 0; i < s.length(); i++) {
                put(s.charAt(i));
            }
        }

        private void putBytes(int c) {
            if (c < 128) {
                put(c);
            } else if (c < 2048) {
                put(192 | c >> 6);
                put(128 | c & 63);
            } else if (c < 65536) {
                put(224 | c >> 12);
                put(128 | c >> 6 & 63);
                put(128 | c & 63);
            } else {
                put(240 | c >> 18);
                put(128 | c >> 12 & 63);
                put(128 | c >> 6 & 63);
                put(128 | c & 63);
            }
        }

        private void put(int b) {
            if (drafted < MOST_PRODUCT) {
                draft[drafted] = (byte) b;
                drafted++;
            } else {
                full = true;
            }
        }

        private void sort(int n) {
            for (int i = n / 2 - 1; i >= 0; i--) {
                sink(i, n);
            }
            for (int i = n - 1; i > 0; i--) {
                swap(0, i);
                sink(0, i);
            }
        }

        /** Heap order: none is before the one above it. */
        private void sink(int from, int n) {
            int at = from;
            for (int turn = 0; turn < n && 2 * at + 1 < n; turn++) {
                int below = 2 * at + 1;
                if (below + 1 < n && isBefore(order[below], order[below + 1])) {
                    below++;
                }
                if (!isBefore(order[at], order[below])) {
                    return;
                }
                swap(at, below);
                at = below;
            }
        }

        private void swap(int i, int j) {
            int kept = order[i];
            order[i] = order[j];
            order[j] = kept;
        }

        private boolean isBefore(int a, int b) {
            int declared = meanings.declares(a);
            int other = meanings.declares(b);
            if (declared != NONE && other != NONE) {
                return store.compare(declared, other) < 0;
            }
            if (declared != NONE || other != NONE) {
                return declared != NONE;
            }
            int order = store.compare(meanings.meaning(a), meanings.meaning(b));
            return order != 0 ? order < 0 : store.compare(meanings.local(a), meanings.local(b)) < 0;
        }
    }
}
