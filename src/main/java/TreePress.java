import java.util.Arrays;

/**
 * A press for documents in a strict part of XML 1.0: they are read with their declarations, judged by
 * them, asked by paths, and set into lines and pages.
 */
public final class TreePress {
    private static final int TAPE_SIZE = 6000;
    private static final int NUMBER_BYTES = 4;
    private static final int FED_AT_ONCE = 5 * NUMBER_BYTES;

    private static final int NONE = -1;
    private static final int NO_SUCH = -9;

    private static final int ILL = -1;
    private static final int ILL_BY_NAMES = -2;
    private static final int BOUND = -3;

    private static final int MOST_NODES = 600;
    private static final int MOST_BYTES = 2000;
    private static final int MOST_DEPTH = 30;
    private static final int MOST_ATTRIBUTES = 8;

    private static final int ROOT = 0;
    private static final int ELEMENT = 1;
    private static final int ATTRIBUTE = 2;
    private static final int TEXT = 3;

    private final byte[] tape = new byte[TAPE_SIZE];
    private final Cursor cursor = new Cursor();
    private final DeclarationReader declarations = new DeclarationReader(cursor);
    private final TreeReader trees = new TreeReader(cursor);
    private final Judge judge = new Judge();
    private final Path path = new Path(cursor);
    private final Selector selector = new Selector();
    private final Composer composer = new Composer();
    // A reading that fails must leave the DOCUMENT as it was, so there are two that change their roles.
    private Doc doc = new Doc();
    private Doc spare = new Doc();
    private int tapeSize = 0;
    private int troubleAt = NONE;

    public TreePress() {
    }

    public int feed(int a, int b, int c, int d, int e) {
        if (tapeSize + FED_AT_ONCE > TAPE_SIZE) {
            return -1;
        }
        keepNumber(a);
        keepNumber(b);
        keepNumber(c);
        keepNumber(d);
        keepNumber(e);
        return tapeSize;
    }

    private void keepNumber(int number) {
        for (int shift = 24; shift >= 0 && tapeSize < TAPE_SIZE; shift -= 8) {
            tape[tapeSize] = (byte) (number >>> shift);
            tapeSize++;
        }
    }

    public int read(int n) {
        if (n < 0 || n > tapeSize) {
            return 0;
        }
        tapeSize = 0;
        cursor.begin(tape, n);
        spare.begin(tape, n);
        boolean good = cursor.skipComments() && declarations.readDoctype(spare) && trees.readTree(spare)
                && cursor.skipComments() && cursor.needEnd();
        troubleAt = cursor.faultAt;
        if (!good) {
            return cursor.fault;
        }
        Doc former = doc;
        doc = spare;
        spare = former;
        judge.judge(doc);
        selector.forget();
        composer.forget();
        return doc.size;
    }

    public int place() {
        return troubleAt;
    }

    public int node(int k, int what) {
        return doc.has(k) ? doc.about(k, what) : NO_SUCH;
    }

    public int name(int k, int i) {
        return doc.has(k) ? doc.names.byteOf(doc.nameOf[k], i) : NONE;
    }

    public int string(int k, int i) {
        return doc.has(k) ? doc.stringByte(k, i) : NONE;
    }

    public int findings() {
        return doc.doctype == NONE ? NONE : judge.size;
    }

    public int finding(int i, int what) {
        if (i < 0 || i >= judge.size) {
            return NO_SUCH;
        }
        if (what == 0) {
            return judge.numberOf(i);
        }
        return what == 1 ? judge.subjectOf(i) : NO_SUCH;
    }

    public int select(int k, int n) {
        if (!doc.has(k) || n < 0 || n > tapeSize) {
            return NO_SUCH;
        }
        tapeSize = 0;
        cursor.begin(tape, n);
        boolean good = path.parse(doc.names);
        troubleAt = cursor.faultAt;
        if (!good) {
            return cursor.fault;
        }
        selector.follow(doc, path, k);
        return selector.size;
    }

    public int told(int i) {
        return i >= 0 && i < selector.size ? selector.chosen[i] : NONE;
    }

    public int set(int width, int height) {
        if (doc.size == 0 || width < 1 || width > 60 || height < 1 || height > 50) {
            return NO_SUCH;
        }
        composer.compose(doc, width, height);
        return composer.lines;
    }

    public int line(int i, int what) {
        if (i < 0 || i >= composer.lines) {
            return NO_SUCH;
        }
        switch (what) {
            case 0:
                return composer.pageOf[i];
            case 1:
                return composer.lengthOf[i];
            case 2:
                return composer.placeOf[i];
            case 3:
                return doc.textAt(composer.sourceOf[i]);
            default:
                return NO_SUCH;
        }
    }

    public int at(int i, int k) {
        return i >= 0 && i < composer.lines ? composer.byteOf(i, k) : NONE;
    }

    public int count(int what) {
        switch (what) {
            case 0:
                return doc.size;
            case 1:
                return doc.specs.size;
            case 2:
                return doc.rules.size;
            case 3:
                return composer.lines;
            case 4:
                return composer.pages;
            case 5:
                return tapeSize;
            case 6:
                return doc.deepest;
            default:
                return NO_SUCH;
        }
    }

    /** Goes over a text byte by byte and keeps the first fault that was met. */
    private static final class Cursor {
        static final int END = -1;
        private static final int MOST_NAME = 20;
        private static final int MOST_DIGITS = 6;

        byte[] text = new byte[0];
        int size = 0;
        int here = 0;
        int nameFrom = 0;
        int nameLength = 0;
        int fault = 0;
        int faultAt = NONE;

        void begin(byte[] newText, int newSize) {
            text = newText;
            size = Math.max(0, Math.min(newSize, newText.length));
            here = 0;
            nameFrom = 0;
            nameLength = 0;
            fault = 0;
            faultAt = NONE;
        }

        static boolean isSpace(int b) {
            return b == 32 || b == 9 || b == 10 || b == 13;
        }

        static boolean isChar(int b) {
            return b >= 32 && b <= 126 || b == 9 || b == 10 || b == 13;
        }

        static boolean isDigit(int b) {
            return b >= '0' && b <= '9';
        }

        static boolean startsName(int b) {
            return b >= 'a' && b <= 'z' || b >= 'A' && b <= 'Z' || b == '_';
        }

        static boolean isNameByte(int b) {
            return b >= 'a' && b <= 'z' || b >= 'A' && b <= 'Z' || b >= '0' && b <= '9'
                    || b == '_' || b == '-' || b == '.';
        }

        int peek() {
            return here >= 0 && here < size ? text[here] & 255 : END;
        }

        /** Answers false, so that a reader can refuse and leave in one line. */
        boolean refuse(int newFault, int place) {
            fault = newFault;
            faultAt = place;
            return false;
        }

        boolean takeIf(String word) {
            int length = word.length();
            if (here < 0 || size - here < length) {
                return false;
            }
            for (int i = 0; i < length; i++) {
                if ((text[here + i] & 255) != word.charAt(i)) {
                    return false;
                }
            }
            here += length;
            return true;
        }

        boolean take(String word) {
            return takeIf(word) || refuse(ILL, here);
        }

        boolean needEnd() {
            return here >= size || refuse(ILL, here);
        }

        void skipSpace() {
            while (here < size && isSpace(peek())) {
                here++;
            }
        }

        boolean needSpace() {
            if (!isSpace(peek())) {
                return refuse(ILL, here);
            }
            skipSpace();
            return true;
        }

        /** Skips S; tells whether there was one and a NAME begins behind it. */
        boolean reachesName() {
            int before = here;
            skipSpace();
            return here > before && startsName(peek());
        }

        boolean needName() {
            return startsName(peek()) ? needToken() : refuse(ILL, here);
        }

        /** Reads a TOKEN, or a NAME whose first byte was looked at. */
        boolean needToken() {
            nameFrom = here;
            while (here < size && isNameByte(peek())) {
                here++;
            }
            nameLength = here - nameFrom;
            if (nameLength == 0) {
                return refuse(ILL, here);
            }
            return nameLength <= MOST_NAME || refuse(BOUND, nameFrom);
        }

        /** Goes over (S) and COMMENTS, as many as there are. */
        boolean skipComments() {
            for (int turn = 0; turn <= size; turn++) {
                skipSpace();
                if (!takeIf("<!--")) {
                    return true;
                }
                if (!finishComment()) {
                    return false;
                }
            }
            return true;
        }

        /** Reads what stands behind a COMMENT's beginning. */
        boolean finishComment() {
            while (here < size) {
                if (takeIf("--")) {
                    return take(">");
                }
                if (!isChar(peek())) {
                    return refuse(ILL, here);
                }
                here++;
            }
            return refuse(ILL, here);
        }

        /** The byte that the PIECE here stands for; NONE if it is ILL. */
        int takePiece() {
            int b = peek();
            if (b != '&') {
                if (!isChar(b)) {
                    refuse(ILL, here);
                    return NONE;
                }
                here++;
                return b;
            }
            if (takeIf("&lt;")) {
                return '<';
            }
            if (takeIf("&gt;")) {
                return '>';
            }
            if (takeIf("&amp;")) {
                return '&';
            }
            if (takeIf("&quot;")) {
                return '"';
            }
            return takeIf("&apos;") ? '\'' : takeNumbered();
        }

        private int takeNumbered() {
            int begin = here;
            int number = 0;
            int digits = 0;
            here++;
            if (peek() == '#') {
                here++;
                for (; digits < MOST_DIGITS && isDigit(peek()); digits++) {
                    number = number * 10 + peek() - '0';
                    here++;
                }
            }
            if (digits == 0 || peek() != ';' || !isChar(number)) {
                refuse(ILL, begin);
                return NONE;
            }
            here++;
            return number;
        }

        /** Reads a VALUE; its bytes come behind the document's values. */
        boolean takeValue(Doc doc) {
            int quote = peek();
            if (quote != '"' && quote != '\'') {
                return refuse(ILL, here);
            }
            here++;
            for (int turn = 0; turn < size && here < size && peek() != quote; turn++) {
                int begin = here;
                int standing = peek();
                if (standing == '<') {
                    return refuse(ILL, here);
                }
                int b = takePiece();
                if (b == NONE) {
                    return false;
                }
                if (!doc.addValueByte(isSpace(standing) ? ' ' : b)) {
                    return refuse(BOUND, begin);
                }
            }
            if (here >= size) {
                return refuse(ILL, here);
            }
            here++;
            return true;
        }
    }

    /** The NAMES of one text, each kept once, so that equal NAMES have equal numbers. */
    private static final class Names {
        // 53 NAMES of one byte and then longer ones, with a byte between, are all that 6000 bytes can hold.
        private static final int MOST = 2020;
        private static final int BUCKETS = 256;

        final byte[] text = new byte[TAPE_SIZE];
        final int[] spec = new int[MOST];
        final int[] rule = new int[MOST];
        private final int[] from = new int[MOST];
        private final int[] length = new int[MOST];
        private final int[] next = new int[MOST];
        private final int[] heads = new int[BUCKETS];
        private int size = 0;

        Names() {
            Arrays.fill(heads, NONE);
        }

        void begin(byte[] newText, int newSize) {
            int most = Math.min(Math.min(newSize, newText.length), TAPE_SIZE);
            System.arraycopy(newText, 0, text, 0, Math.max(0, most));
            Arrays.fill(heads, NONE);
            size = 0;
        }

        private static int bucketOf(Cursor cursor) {
            int hash = 0;
            for (int i = 0; i < cursor.nameLength; i++) {
                hash = hash * 31 + cursor.text[cursor.nameFrom + i];
            }
            return (hash ^ hash >>> 8) & BUCKETS - 1;
        }

        /** The number of the NAME that the cursor read last; NONE if it is not among these. */
        int find(Cursor cursor) {
            int id = heads[bucketOf(cursor)];
            for (int turn = 0; turn < size && id != NONE; turn++) {
                if (isThat(id, cursor)) {
                    return id;
                }
                id = next[id];
            }
            return NONE;
        }

        private boolean isThat(int id, Cursor cursor) {
            if (length[id] != cursor.nameLength) {
                return false;
            }
            for (int i = 0; i < length[id]; i++) {
                if (text[from[id] + i] != cursor.text[cursor.nameFrom + i]) {
                    return false;
                }
            }
            return true;
        }

        /** The number of the NAME that the cursor read last in the text of these NAMES. */
        int keep(Cursor cursor) {
            int found = find(cursor);
            if (found != NONE || size >= MOST) {
                return found;
            }
            int id = size;
            int bucket = bucketOf(cursor);
            from[id] = cursor.nameFrom;
            length[id] = cursor.nameLength;
            spec[id] = NONE;
            rule[id] = NONE;
            next[id] = heads[bucket];
            heads[bucket] = id;
            size++;
            return id;
        }

        boolean has(int id) {
            return id >= 0 && id < size;
        }

        int lengthOf(int id) {
            return has(id) ? length[id] : 0;
        }

        int byteOf(int id, int i) {
            return i >= 0 && i < lengthOf(id) ? text[from[id] + i] : NONE;
        }

        int specOf(int id) {
            return has(id) ? spec[id] : NONE;
        }

        int ruleOf(int id) {
            return has(id) ? rule[id] : NONE;
        }
    }

    /**
     * What '&lt;!ELEMENT' declares. A GROUP is held as the automaton of its places: a place is a NAME that
     * stands in it, and bit p of a set of places stands for place p.
     */
    private static final class Specs {
        static final int MOST = 30;
        static final int MOST_PLACES = 40;
        static final long ALL_PLACES = -1L;
        static final int EMPTY = 0;
        static final int ANY = 1;
        static final int MIXED = 2;
        static final int GROUP = 3;

        final int[] kind = new int[MOST];
        final int[] owner = new int[MOST];
        // How many RULES were told ahead of it, so that declarations can be judged as they stand.
        final int[] rulesAhead = new int[MOST];
        final int[] places = new int[MOST];
        private final int[] nameAt = new int[MOST * MOST_PLACES];
        private final long[] followers = new long[MOST * MOST_PLACES];
        // Of each place, the earlier ones of the same NAME.
        private final long[] twins = new long[MOST * MOST_PLACES];
        final long[] first = new long[MOST];
        final long[] last = new long[MOST];
        final byte[] mayBeEmpty = new byte[MOST];
        int size = 0;

        /** A new one; NONE if there is no room. */
        int add(int name, int rules) {
            if (size >= MOST) {
                return NONE;
            }
            int spec = size;
            kind[spec] = EMPTY;
            owner[spec] = name;
            rulesAhead[spec] = rules;
            places[spec] = 0;
            first[spec] = 0;
            last[spec] = 0;
            mayBeEmpty[spec] = 0;
            size++;
            return spec;
        }

        /** A new place of a SPEC; NONE if it has as many as it may. */
        int addPlace(int spec, int name) {
            int place = places[spec];
            if (place >= MOST_PLACES) {
                return NONE;
            }
            twins[spec * MOST_PLACES + place] = named(spec, ALL_PLACES, name);
            nameAt[spec * MOST_PLACES + place] = name;
            followers[spec * MOST_PLACES + place] = 0;
            places[spec]++;
            return place;
        }

        void link(int spec, long before, long behind) {
            for (int place = 0; place < places[spec]; place++) {
                if ((before >>> place & 1) != 0) {
                    followers[spec * MOST_PLACES + place] |= behind;
                }
            }
        }

        /** The places of this NAME among those of a set. */
        long named(int spec, long set, int name) {
            long found = 0;
            for (int place = 0; place < places[spec]; place++) {
                if (nameAt[spec * MOST_PLACES + place] == name) {
                    found |= 1L << place;
                }
            }
            return found & set;
        }

        long behind(int spec, long set) {
            long found = 0;
            for (int place = 0; place < places[spec]; place++) {
                if ((set >>> place & 1) != 0) {
                    found |= followers[spec * MOST_PLACES + place];
                }
            }
            return found;
        }

        /** Whether two places of a set have the same NAME. */
        boolean repeats(int spec, long set) {
            for (int place = 0; place < places[spec]; place++) {
                if ((set >>> place & 1) != 0 && (set & twins[spec * MOST_PLACES + place]) != 0) {
                    return true;
                }
            }
            return false;
        }

        boolean isDeterministic(int spec) {
            if (repeats(spec, first[spec])) {
                return false;
            }
            for (int place = 0; place < places[spec]; place++) {
                if (repeats(spec, followers[spec * MOST_PLACES + place])) {
                    return false;
                }
            }
            return true;
        }
    }

    /** The RULES that stand, in the order in which they are told; those of one NAME are a chain. */
    private static final class Rules {
        // A RULE has eight bytes at least, a TOKEN and what parts it from the next one two.
        static final int MOST = 750;
        static final int MOST_FOR_NAME = 10;
        static final int MOST_TOKENS = 8;
        private static final int TOKEN_ROOM = 3000;
        static final int CDATA = 0;
        static final int ID = 1;
        static final int TOKENS = 2;
        static final int IMPLIED = 0;
        static final int REQUIRED = 1;
        static final int FIXED = 2;
        static final int DEFAULTED = 3;

        final int[] attribute = new int[MOST];
        final int[] owner = new int[MOST];
        final int[] type = new int[MOST];
        final int[] firstToken = new int[MOST];
        final int[] tokens = new int[MOST];
        final int[] usage = new int[MOST];
        final int[] valueFrom = new int[MOST];
        final int[] valueTo = new int[MOST];
        final int[] next = new int[MOST];
        final int[] tokenFrom = new int[TOKEN_ROOM];
        final int[] tokenLength = new int[TOKEN_ROOM];
        int size = 0;
        int tokenSize = 0;

        void begin() {
            size = 0;
            tokenSize = 0;
        }

        boolean hasValue(int rule) {
            return usage[rule] == FIXED || usage[rule] == DEFAULTED;
        }

        /** The RULE for an attribute in the chain that begins with this one. */
        int find(int chain, int name) {
            int rule = chain;
            for (int turn = 0; turn < size && rule != NONE; turn++) {
                if (attribute[rule] == name) {
                    return rule;
                }
                rule = next[rule];
            }
            return NONE;
        }

        int chainLength(int chain) {
            int length = 0;
            int rule = chain;
            while (length < size && rule != NONE) {
                rule = next[rule];
                length++;
            }
            return length;
        }

        /** A new RULE at its chain's end; NONE if there is no room. */
        int add(Names names, int element, int name) {
            if (size >= MOST || !names.has(element)) {
                return NONE;
            }
            int rule = size;
            int tail = names.rule[element];
            for (int turn = 0; turn < size && tail != NONE && next[tail] != NONE; turn++) {
                tail = next[tail];
            }
            if (tail == NONE) {
                names.rule[element] = rule;
            } else {
                next[tail] = rule;
            }
            owner[rule] = element;
            attribute[rule] = name;
            next[rule] = NONE;
            type[rule] = CDATA;
            firstToken[rule] = tokenSize;
            tokens[rule] = 0;
            usage[rule] = IMPLIED;
            valueFrom[rule] = 0;
            valueTo[rule] = 0;
            size++;
            return rule;
        }

        void addToken(int rule, int from, int length) {
            if (tokenSize < TOKEN_ROOM) {
                tokenFrom[tokenSize] = from;
                tokenLength[tokenSize] = length;
                tokenSize++;
                tokens[rule]++;
            }
        }
    }

    /** A DOCUMENT: its NODES, the bytes of its STRINGS, and its declarations. */
    private static final class Doc {
        static final int BY_DEFAULT = 1;
        // A TEXT with a byte that is no S, or that came by a REF.
        static final int SOLID = 2;

        final Names names = new Names();
        final Specs specs = new Specs();
        final Rules rules = new Rules();
        final int[] kind = new int[MOST_NODES];
        final int[] parent = new int[MOST_NODES];
        final int[] nameOf = new int[MOST_NODES];
        final int[] attributes = new int[MOST_NODES];
        final int[] inside = new int[MOST_NODES];
        final int[] flag = new int[MOST_NODES];
        // The NODES within k are those up to, and without, end[k].
        final int[] end = new int[MOST_NODES];
        // A STRING's bytes: of an attribute among the values, else among the texts, where all that is
        // within an ELEMENT lies side by side.
        final int[] from = new int[MOST_NODES];
        final int[] to = new int[MOST_NODES];
        final byte[] values = new byte[MOST_BYTES];
        final byte[] texts = new byte[MOST_BYTES];
        int valueSize = 0;
        int textSize = 0;
        int size = 0;
        int doctype = NONE;
        int deepest = 0;

        void begin(byte[] text, int textLength) {
            names.begin(text, textLength);
            specs.size = 0;
            rules.begin();
            valueSize = 0;
            textSize = 0;
            size = 0;
            doctype = NONE;
            deepest = 0;
        }

        boolean has(int k) {
            return k >= 0 && k < size;
        }

        /** A new NODE, as yet without bytes; NONE if there is no room. */
        int add(int newKind, int within, int name) {
            if (size >= MOST_NODES) {
                return NONE;
            }
            int k = size;
            int begin = newKind == ATTRIBUTE ? valueSize : textSize;
            kind[k] = newKind;
            parent[k] = within;
            nameOf[k] = name;
            attributes[k] = 0;
            inside[k] = 0;
            flag[k] = 0;
            end[k] = k + 1;
            from[k] = begin;
            to[k] = begin;
            size++;
            if (has(within)) {
                countIn(within, newKind);
            }
            return k;
        }

        private void countIn(int k, int newKind) {
            if (newKind == ATTRIBUTE) {
                attributes[k]++;
            } else {
                inside[k]++;
            }
        }

        void close(int k) {
            end[k] = size;
            to[k] = textSize;
        }

        private boolean isFull() {
            return valueSize + textSize >= MOST_BYTES;
        }

        boolean addValueByte(int b) {
            if (isFull()) {
                return false;
            }
            values[valueSize] = (byte) b;
            valueSize++;
            return true;
        }

        boolean addTextByte(int b) {
            if (isFull()) {
                return false;
            }
            texts[textSize] = (byte) b;
            textSize++;
            return true;
        }

        int about(int k, int what) {
            switch (what) {
                case 0:
                    return kind[k];
                case 1:
                    return parent[k];
                case 2:
                    return names.lengthOf(nameOf[k]);
                case 3:
                    return to[k] - from[k];
                case 4:
                    return attributes[k];
                case 5:
                    return inside[k];
                case 6:
                    return flag[k] & BY_DEFAULT;
                default:
                    return NO_SUCH;
            }
        }

        int stringByte(int k, int i) {
            if (i < 0 || i >= to[k] - from[k]) {
                return NONE;
            }
            return kind[k] == ATTRIBUTE ? values[from[k] + i] : texts[from[k] + i];
        }

        boolean hasBytes(int k, byte[] wanted, int begin) {
            byte[] held = kind[k] == ATTRIBUTE ? values : texts;
            int length = to[k] - from[k];
            if (begin < 0 || length > wanted.length - begin) {
                return false;
            }
            for (int i = 0; i < length; i++) {
                if (held[from[k] + i] != wanted[begin + i]) {
                    return false;
                }
            }
            return true;
        }

        /** The first NODE right in k, attributes aside; end[k] if there is none. */
        int firstIn(int k) {
            return k + 1 + attributes[k];
        }

        int attributeOf(int k, int name) {
            for (int i = k + 1; i <= k + attributes[k]; i++) {
                if (nameOf[i] == name) {
                    return i;
                }
            }
            return NONE;
        }

        /** The TEXT that holds a byte of the texts. */
        int textAt(int place) {
            for (int k = 0; k < size; k++) {
                if (kind[k] == TEXT && place >= from[k] && place < to[k]) {
                    return k;
                }
            }
            return NONE;
        }
    }

    /** Reads a DOCTYPE with its declarations. */
    private static final class DeclarationReader {
        private static final int MOST_GROUPS = 6;
        private static final int NO_SIGN = 0;

        private final Cursor cursor;
        // Of each GROUP that is open: its sign, and what its PARTS so far begin and end with.
        private final int[] sign = new int[MOST_GROUPS];
        private final int[] parts = new int[MOST_GROUPS];
        private final long[] first = new long[MOST_GROUPS];
        private final long[] last = new long[MOST_GROUPS];
        private final byte[] mayBeEmpty = new byte[MOST_GROUPS];
        private int open = 0;
        // The same of the PART that was read last.
        private long partFirst = 0;
        private long partLast = 0;
        private byte partMayBeEmpty = 0;

        DeclarationReader(Cursor cursor) {
            this.cursor = cursor;
        }

        /** Reads up to the outermost ELEMENT; without a DOCTYPE there is nothing to read. */
        boolean readDoctype(Doc doc) {
            if (!cursor.takeIf("<!DOCTYPE")) {
                return true;
            }
            if (!cursor.needSpace() || !cursor.needName()) {
                return false;
            }
            doc.doctype = doc.names.keep(cursor);
            cursor.skipSpace();
            if (!cursor.take("[") || !cursor.skipComments()) {
                return false;
            }
            for (int turn = 0; turn < cursor.size && !cursor.takeIf("]"); turn++) {
                int begin = cursor.here;
                boolean good = cursor.takeIf("<!ELEMENT") ? readElement(doc, begin)
                        : cursor.take("<!ATTLIST") && readAttlist(doc);
                if (!good || !cursor.skipComments()) {
                    return false;
                }
            }
            cursor.skipSpace();
            return cursor.take(">") && cursor.skipComments();
        }

        private boolean readElement(Doc doc, int begin) {
            Specs specs = doc.specs;
            if (specs.size >= Specs.MOST) {
                return cursor.refuse(BOUND, begin);
            }
            if (!cursor.needSpace() || !cursor.needName()) {
                return false;
            }
            int name = doc.names.keep(cursor);
            int spec = specs.add(name, doc.rules.size);
            if (spec == NONE || !cursor.needSpace()) {
                return false;
            }
            if (doc.names.has(name) && doc.names.spec[name] == NONE) {
                doc.names.spec[name] = spec;
            }
            if (cursor.takeIf("EMPTY")) {
                specs.kind[spec] = Specs.EMPTY;
            } else if (cursor.takeIf("ANY")) {
                specs.kind[spec] = Specs.ANY;
            } else {
                if (!cursor.take("(")) {
                    return false;
                }
                cursor.skipSpace();
                boolean mixed = cursor.takeIf("#PCDATA");
                specs.kind[spec] = mixed ? Specs.MIXED : Specs.GROUP;
                if (mixed ? !readMixed(doc, spec) : !readGroup(doc, spec)) {
                    return false;
                }
            }
            cursor.skipSpace();
            return cursor.take(">");
        }

        /** Reads what stands behind '#PCDATA'. */
        private boolean readMixed(Doc doc, int spec) {
            cursor.skipSpace();
            for (int turn = 0; turn < cursor.size && cursor.takeIf("|"); turn++) {
                cursor.skipSpace();
                if (!readPlace(doc, spec)) {
                    return false;
                }
                cursor.skipSpace();
            }
            if (!cursor.take(")")) {
                return false;
            }
            return cursor.takeIf("*") || doc.specs.places[spec] == 0 || cursor.refuse(ILL, cursor.here);
        }

        /** Reads what stands behind the sign of the outermost GROUP. */
        private boolean readGroup(Doc doc, int spec) {
            boolean behindPart = false;
            open = 0;
            openGroup();
            for (int turn = 0; turn < cursor.size && open > 0; turn++) {
                cursor.skipSpace();
                int begin = cursor.here;
                if (behindPart) {
                    behindPart = cursor.takeIf(")");
                    if (!behindPart && !readSign()) {
                        return false;
                    }
                    if (behindPart) {
                        closeGroup();
                        endPart(doc.specs, spec);
                    }
                } else if (cursor.takeIf("(")) {
                    if (open >= MOST_GROUPS) {
                        return cursor.refuse(BOUND, begin);
                    }
                    openGroup();
                } else {
                    if (!readPlace(doc, spec)) {
                        return false;
                    }
                    endPart(doc.specs, spec);
                    behindPart = true;
                }
            }
            doc.specs.first[spec] = partFirst;
            doc.specs.last[spec] = partLast;
            doc.specs.mayBeEmpty[spec] = partMayBeEmpty;
            return true;
        }

        private void openGroup() {
            sign[open] = NO_SIGN;
            parts[open] = 0;
            first[open] = 0;
            last[open] = 0;
            mayBeEmpty[open] = 0;
            open++;
        }

        private void closeGroup() {
            open--;
            partFirst = first[open];
            partLast = last[open];
            partMayBeEmpty = mayBeEmpty[open];
        }

        private boolean readSign() {
            int found = cursor.peek();
            int former = sign[open - 1];
            if (found != '|' && found != ',' || former != NO_SIGN && former != found) {
                return cursor.refuse(ILL, cursor.here);
            }
            sign[open - 1] = found;
            cursor.here++;
            return true;
        }

        private boolean readPlace(Doc doc, int spec) {
            if (!cursor.needName()) {
                return false;
            }
            int place = doc.specs.addPlace(spec, doc.names.keep(cursor));
            if (place == NONE) {
                return cursor.refuse(BOUND, cursor.nameFrom);
            }
            partFirst = 1L << place;
            partLast = partFirst;
            partMayBeEmpty = 0;
            return true;
        }

        /** Takes the sign behind a PART, if there is one, and joins the PART to the GROUP that is open. */
        private void endPart(Specs specs, int spec) {
            boolean optional = cursor.takeIf("?");
            boolean anyTimes = !optional && cursor.takeIf("*");
            boolean again = anyTimes || !optional && cursor.takeIf("+");
            if (again) {
                specs.link(spec, partLast, partFirst);
            }
            if (optional || anyTimes) {
                partMayBeEmpty = 1;
            }
            if (open > 0) {
                joinPart(specs, spec, open - 1);
            }
        }

        private void joinPart(Specs specs, int spec, int group) {
            boolean firstPart = parts[group] == 0;
            boolean choice = sign[group] == '|';
            if (!firstPart && !choice) {
                specs.link(spec, last[group], partFirst);
            }
            if (firstPart || choice || mayBeEmpty[group] != 0) {
                first[group] |= partFirst;
            }
            if (choice || partMayBeEmpty != 0) {
                last[group] |= partLast;
            } else {
                last[group] = partLast;
            }
            if (firstPart) {
                mayBeEmpty[group] = partMayBeEmpty;
            } else if (choice) {
                mayBeEmpty[group] |= partMayBeEmpty;
            } else {
                mayBeEmpty[group] &= partMayBeEmpty;
            }
            parts[group]++;
        }

        private boolean readAttlist(Doc doc) {
            if (!cursor.needSpace() || !cursor.needName()) {
                return false;
            }
            int element = doc.names.keep(cursor);
            for (int turn = 0; turn < cursor.size && cursor.reachesName(); turn++) {
                if (!cursor.needName()) {
                    return false;
                }
                int name = doc.names.keep(cursor);
                int chain = doc.names.ruleOf(element);
                // A RULE for an attribute that has one is read, but it counts as none.
                boolean counts = doc.rules.find(chain, name) == NONE;
                if (counts && doc.rules.chainLength(chain) >= Rules.MOST_FOR_NAME) {
                    return cursor.refuse(BOUND, cursor.nameFrom);
                }
                int rule = counts ? doc.rules.add(doc.names, element, name) : NONE;
                if (!readType(doc.rules, rule) || !readDefault(doc, rule)) {
                    return false;
                }
            }
            return cursor.take(">");
        }

        private boolean readType(Rules rules, int rule) {
            if (!cursor.needSpace()) {
                return false;
            }
            int type = Rules.CDATA;
            if (!cursor.takeIf("CDATA")) {
                type = cursor.takeIf("ID") ? Rules.ID : Rules.TOKENS;
            }
            if (rule != NONE) {
                rules.type[rule] = type;
            }
            return type != Rules.TOKENS || cursor.take("(") && readTokens(rules, rule);
        }

        private boolean readTokens(Rules rules, int rule) {
            for (int tokens = 0; tokens <= Rules.MOST_TOKENS; tokens++) {
                cursor.skipSpace();
                if (!cursor.needToken()) {
                    return false;
                }
                if (tokens >= Rules.MOST_TOKENS) {
                    return cursor.refuse(BOUND, cursor.nameFrom);
                }
                if (rule != NONE) {
                    rules.addToken(rule, cursor.nameFrom, cursor.nameLength);
                }
                cursor.skipSpace();
                if (!cursor.takeIf("|")) {
                    return cursor.take(")");
                }
            }
            return false;
        }

        private boolean readDefault(Doc doc, int rule) {
            if (!cursor.needSpace()) {
                return false;
            }
            int usage = Rules.REQUIRED;
            int from = doc.valueSize;
            if (!cursor.takeIf("#REQUIRED")) {
                usage = cursor.takeIf("#IMPLIED") ? Rules.IMPLIED : Rules.DEFAULTED;
            }
            if (usage == Rules.DEFAULTED) {
                if (cursor.takeIf("#FIXED")) {
                    usage = Rules.FIXED;
                    if (!cursor.needSpace()) {
                        return false;
                    }
                }
                if (!cursor.takeValue(doc)) {
                    return false;
                }
            }
            if (rule != NONE) {
                doc.rules.usage[rule] = usage;
                doc.rules.valueFrom[rule] = from;
                doc.rules.valueTo[rule] = doc.valueSize;
            }
            return true;
        }
    }

    /** Reads the outermost ELEMENT and all that is in it. */
    private static final class TreeReader {
        private final Cursor cursor;
        private int current = NONE;
        private int depth = 0;

        TreeReader(Cursor cursor) {
            this.cursor = cursor;
        }

        boolean readTree(Doc doc) {
            current = doc.add(ROOT, NONE, NONE);
            depth = 0;
            if (!cursor.take("<") || !readTag(doc)) {
                return false;
            }
            for (int turn = 0; turn < cursor.size && depth > 0; turn++) {
                boolean good;
                if (cursor.takeIf("</")) {
                    good = readEndTag(doc);
                } else if (cursor.takeIf("<!--")) {
                    good = cursor.finishComment();
                } else if (cursor.takeIf("<")) {
                    good = readTag(doc);
                } else {
                    good = readText(doc);
                }
                if (!good) {
                    return false;
                }
            }
            doc.close(0);
            return true;
        }

        private boolean readTag(Doc doc) {
            if (!cursor.needName()) {
                return false;
            }
            int begin = cursor.nameFrom;
            int element = depth < MOST_DEPTH ? doc.add(ELEMENT, current, doc.names.keep(cursor)) : NONE;
            if (element == NONE) {
                return cursor.refuse(BOUND, begin);
            }
            current = element;
            depth++;
            doc.deepest = Math.max(doc.deepest, depth);
            for (int turn = 0; turn < cursor.size && cursor.reachesName(); turn++) {
                if (!readAttribute(doc)) {
                    return false;
                }
            }
            int close = cursor.here;
            boolean ends = cursor.takeIf("/>");
            if (!ends && !cursor.take(">")) {
                return false;
            }
            if (!addDefaults(doc)) {
                return cursor.refuse(BOUND, close);
            }
            if (ends) {
                leave(doc);
            }
            return true;
        }

        private boolean readAttribute(Doc doc) {
            if (!cursor.needName()) {
                return false;
            }
            int begin = cursor.nameFrom;
            int name = doc.names.keep(cursor);
            if (doc.attributeOf(current, name) != NONE) {
                return cursor.refuse(ILL_BY_NAMES, begin);
            }
            int attribute = addAttribute(doc, name);
            if (attribute == NONE) {
                return cursor.refuse(BOUND, begin);
            }
            cursor.skipSpace();
            if (!cursor.take("=")) {
                return false;
            }
            cursor.skipSpace();
            if (!cursor.takeValue(doc)) {
                return false;
            }
            doc.to[attribute] = doc.valueSize;
            return true;
        }

        private int addAttribute(Doc doc, int name) {
            return doc.attributes[current] < MOST_ATTRIBUTES ? doc.add(ATTRIBUTE, current, name) : NONE;
        }

        /** Adds the attributes that come by default; false if one more than may be would come. */
        private boolean addDefaults(Doc doc) {
            Rules rules = doc.rules;
            int rule = doc.names.ruleOf(doc.nameOf[current]);
            for (int turn = 0; turn < Rules.MOST_FOR_NAME && rule != NONE; turn++) {
                int name = rules.attribute[rule];
                if (rules.hasValue(rule) && doc.attributeOf(current, name) == NONE) {
                    int attribute = addAttribute(doc, name);
                    if (attribute == NONE) {
                        return false;
                    }
                    doc.from[attribute] = rules.valueFrom[rule];
                    doc.to[attribute] = rules.valueTo[rule];
                    doc.flag[attribute] = Doc.BY_DEFAULT;
                }
                rule = rules.next[rule];
            }
            return true;
        }

        private boolean readText(Doc doc) {
            int text = NONE;
            for (int turn = 0; turn <= cursor.size && cursor.peek() != '<'; turn++) {
                int begin = cursor.here;
                boolean byReference = cursor.peek() == '&';
                int b = cursor.takePiece();
                if (b == NONE) {
                    return false;
                }
                if (text == NONE) {
                    text = doc.add(TEXT, current, NONE);
                }
                if (text == NONE || !doc.addTextByte(b)) {
                    return cursor.refuse(BOUND, begin);
                }
                if (byReference || !Cursor.isSpace(b)) {
                    doc.flag[text] = Doc.SOLID;
                }
                doc.to[text] = doc.textSize;
            }
            return true;
        }

        private boolean readEndTag(Doc doc) {
            if (!cursor.needName()) {
                return false;
            }
            if (doc.names.find(cursor) != doc.nameOf[current]) {
                return cursor.refuse(ILL_BY_NAMES, cursor.nameFrom);
            }
            cursor.skipSpace();
            if (!cursor.take(">")) {
                return false;
            }
            leave(doc);
            return true;
        }

        private void leave(Doc doc) {
            doc.close(current);
            current = doc.parent[current];
            depth--;
        }
    }

    /** Holds a DOCUMENT against its declarations. */
    private static final class Judge {
        // 750 RULES give two each, 30 SPECS three, 599 ELEMENTS eleven, and the outermost one more.
        private static final int MOST = 8200;
        private static final int SUBJECTS = 1024;

        private final int[] found = new int[MOST];
        private final int[] ids = new int[MOST_NODES];
        private int idCount = 0;
        int size = 0;

        int numberOf(int i) {
            return found[i] / SUBJECTS;
        }

        int subjectOf(int i) {
            return found[i] % SUBJECTS;
        }

        private void report(int number, int subject) {
            if (size < MOST) {
                found[size] = number * SUBJECTS + subject;
                size++;
            }
        }

        void judge(Doc doc) {
            size = 0;
            idCount = 0;
            if (doc.doctype == NONE) {
                return;
            }
            judgeDeclarations(doc);
            if (doc.nameOf[1] != doc.doctype) {
                report(6, 1);
            }
            for (int k = 1; k < doc.size; k++) {
                if (doc.kind[k] == ELEMENT) {
                    judgeElement(doc, k);
                }
            }
        }

        private void judgeDeclarations(Doc doc) {
            int rule = 0;
            for (int spec = 0; spec < doc.specs.size; spec++) {
                for (; rule < doc.specs.rulesAhead[spec]; rule++) {
                    judgeRule(doc, rule);
                }
                judgeSpec(doc, spec);
            }
            for (; rule < doc.rules.size; rule++) {
                judgeRule(doc, rule);
            }
        }

        private void judgeSpec(Doc doc, int spec) {
            Specs specs = doc.specs;
            if (doc.names.specOf(specs.owner[spec]) != spec) {
                report(1, spec);
            }
            if (specs.kind[spec] == Specs.GROUP && !specs.isDeterministic(spec)) {
                report(2, spec);
            }
            if (specs.kind[spec] == Specs.MIXED && specs.repeats(spec, Specs.ALL_PLACES)) {
                report(3, spec);
            }
        }

        private void judgeRule(Doc doc, int rule) {
            Rules rules = doc.rules;
            if (rules.type[rule] == Rules.ID && (rules.hasValue(rule) || hasEarlierId(doc, rule))) {
                report(4, rule);
            }
            if (rules.hasValue(rule) && !isOfType(doc, rule, rules.valueFrom[rule], rules.valueTo[rule])) {
                report(5, rule);
            }
        }

        private boolean hasEarlierId(Doc doc, int rule) {
            int other = doc.names.ruleOf(doc.rules.owner[rule]);
            for (int turn = 0; turn < Rules.MOST_FOR_NAME && other != NONE && other != rule; turn++) {
                if (doc.rules.type[other] == Rules.ID) {
                    return true;
                }
                other = doc.rules.next[other];
            }
            return false;
        }

        private boolean isOfType(Doc doc, int rule, int from, int to) {
            if (doc.rules.type[rule] == Rules.ID) {
                return isName(doc, from, to);
            }
            return doc.rules.type[rule] == Rules.CDATA || isToken(doc, rule, from, to);
        }

        private boolean isName(Doc doc, int from, int to) {
            if (from >= to || to - from > Cursor.MOST_NAME || !Cursor.startsName(doc.values[from])) {
                return false;
            }
            for (int i = from; i < to; i++) {
                if (!Cursor.isNameByte(doc.values[i])) {
                    return false;
                }
            }
            return true;
        }

        private boolean isToken(Doc doc, int rule, int from, int to) {
            int begin = doc.rules.firstToken[rule];
            for (int token = begin; token < begin + doc.rules.tokens[rule]; token++) {
                boolean same = doc.rules.tokenLength[token] == to - from;
                for (int i = 0; same && i < to - from; i++) {
                    same = doc.names.text[doc.rules.tokenFrom[token] + i] == doc.values[from + i];
                }
                if (same) {
                    return true;
                }
            }
            return false;
        }

        private void judgeElement(Doc doc, int k) {
            int spec = doc.names.specOf(doc.nameOf[k]);
            int chain = doc.names.ruleOf(doc.nameOf[k]);
            if (spec == NONE) {
                report(7, k);
            } else if (!fits(doc, k, spec)) {
                report(8, k);
            }
            for (int attribute = k + 1; attribute <= k + doc.attributes[k]; attribute++) {
                if ((doc.flag[attribute] & Doc.BY_DEFAULT) == 0) {
                    judgeAttribute(doc, attribute, doc.rules.find(chain, doc.nameOf[attribute]));
                }
            }
            int rule = chain;
            for (int turn = 0; turn < Rules.MOST_FOR_NAME && rule != NONE; turn++) {
                boolean needed = doc.rules.usage[rule] == Rules.REQUIRED;
                if (needed && doc.attributeOf(k, doc.rules.attribute[rule]) == NONE) {
                    report(12, k);
                }
                rule = doc.rules.next[rule];
            }
        }

        private void judgeAttribute(Doc doc, int k, int rule) {
            if (rule == NONE) {
                report(9, k);
                return;
            }
            boolean isId = doc.rules.type[rule] == Rules.ID;
            if (!isOfType(doc, rule, doc.from[k], doc.to[k]) || !isAsFixed(doc, k, rule)) {
                report(10, k);
            } else if (isId && isTaken(doc, k)) {
                report(11, k);
            }
            if (isId && idCount < MOST_NODES) {
                ids[idCount] = k;
                idCount++;
            }
        }

        private boolean isAsFixed(Doc doc, int k, int rule) {
            if (doc.rules.usage[rule] != Rules.FIXED) {
                return true;
            }
            int from = doc.rules.valueFrom[rule];
            return sameValue(doc, k, from, doc.rules.valueTo[rule] - from);
        }

        private boolean isTaken(Doc doc, int k) {
            for (int i = 0; i < idCount; i++) {
                int other = ids[i];
                if (sameValue(doc, k, doc.from[other], doc.to[other] - doc.from[other])) {
                    return true;
                }
            }
            return false;
        }

        private boolean sameValue(Doc doc, int k, int from, int length) {
            return doc.to[k] - doc.from[k] == length && doc.hasBytes(k, doc.values, from);
        }

        private boolean fits(Doc doc, int k, int spec) {
            switch (doc.specs.kind[spec]) {
                case Specs.EMPTY:
                    return doc.inside[k] == 0;
                case Specs.GROUP:
                    return fitsGroup(doc, k, spec);
                default:
                    return fitsLoosely(doc, k, spec);
            }
        }

        /** For ANY and '#PCDATA', where the order of what is within does not matter. */
        private boolean fitsLoosely(Doc doc, int k, int spec) {
            boolean any = doc.specs.kind[spec] == Specs.ANY;
            for (int child = doc.firstIn(k); child < doc.end[k]; child = Math.max(child + 1, doc.end[child])) {
                if (doc.kind[child] == ELEMENT) {
                    int name = doc.nameOf[child];
                    boolean fine = any ? doc.names.specOf(name) != NONE
                            : doc.specs.named(spec, Specs.ALL_PLACES, name) != 0;
                    if (!fine) {
                        return false;
                    }
                }
            }
            return true;
        }

        private boolean fitsGroup(Doc doc, int k, int spec) {
            Specs specs = doc.specs;
            long awaited = specs.first[spec];
            boolean mayEnd = specs.mayBeEmpty[spec] != 0;
            for (int child = doc.firstIn(k); child < doc.end[k]; child = Math.max(child + 1, doc.end[child])) {
                if (doc.kind[child] == ELEMENT) {
                    long places = specs.named(spec, awaited, doc.nameOf[child]);
                    if (places == 0) {
                        return false;
                    }
                    awaited = specs.behind(spec, places);
                    mayEnd = (places & specs.last[spec]) != 0;
                } else if ((doc.flag[child] & Doc.SOLID) != 0) {
                    return false;
                }
            }
            return mayEnd;
        }
    }

    /** A PATH, read into its STEPS and what stands in their brackets. */
    private static final class Path {
        static final int MOST_STEPS = 12;
        static final int MOST_BRACKETS = 4;
        private static final int MOST_DIGITS = 4;
        // The NAME that stands for all of them; NONE is one that the DOCUMENT has not.
        static final int ALL = -2;
        static final int ITSELF = 0;
        static final int UPWARD = 1;
        static final int TO_TEXTS = 2;
        static final int TO_ATTRIBUTES = 3;
        static final int TO_ELEMENTS = 4;
        static final int NUMBER = 0;
        static final int LAST = 1;
        static final int OWN_STRING = 2;
        static final int HAS_ATTRIBUTE = 3;
        static final int HAS_ELEMENT = 4;

        private final Cursor cursor;
        final int[] kind = new int[MOST_STEPS];
        final int[] stepName = new int[MOST_STEPS];
        final byte[] deep = new byte[MOST_STEPS];
        final int[] brackets = new int[MOST_STEPS];
        final int[] test = new int[MOST_STEPS * MOST_BRACKETS];
        // A NUMBER, or the number of a NAME.
        final int[] wanted = new int[MOST_STEPS * MOST_BRACKETS];
        final int[] quotedFrom = new int[MOST_STEPS * MOST_BRACKETS];
        // NONE where nothing is quoted.
        final int[] quotedLength = new int[MOST_STEPS * MOST_BRACKETS];
        int steps = 0;
        boolean fromRoot = false;

        Path(Cursor cursor) {
            this.cursor = cursor;
        }

        byte[] quotedBytes() {
            return cursor.text;
        }

        boolean parse(Names names) {
            steps = 0;
            boolean goesDeep = cursor.takeIf("//");
            fromRoot = goesDeep || cursor.takeIf("/");
            if (fromRoot && !goesDeep && cursor.peek() == Cursor.END) {
                return true;
            }
            for (int turn = 0; turn <= MOST_STEPS; turn++) {
                if (!readStep(names, goesDeep)) {
                    return false;
                }
                if (cursor.peek() == Cursor.END) {
                    return true;
                }
                goesDeep = cursor.takeIf("//");
                if (!goesDeep && !cursor.take("/")) {
                    return false;
                }
            }
            return false;
        }

        private boolean readStep(Names names, boolean goesDeep) {
            int b = cursor.peek();
            if (b != '.' && b != '@' && b != '*' && !Cursor.startsName(b)) {
                return cursor.refuse(ILL, cursor.here);
            }
            if (steps >= MOST_STEPS) {
                return cursor.refuse(BOUND, cursor.here);
            }
            int step = steps;
            steps++;
            deep[step] = (byte) (goesDeep ? 1 : 0);
            brackets[step] = 0;
            stepName[step] = ALL;
            if (b == '.') {
                kind[step] = cursor.takeIf("..") ? UPWARD : ITSELF;
                return kind[step] == UPWARD || cursor.take(".");
            }
            if (cursor.takeIf("text()")) {
                kind[step] = TO_TEXTS;
            } else {
                kind[step] = cursor.takeIf("@") ? TO_ATTRIBUTES : TO_ELEMENTS;
                if (!cursor.takeIf("*")) {
                    if (!cursor.needName()) {
                        return false;
                    }
                    stepName[step] = names.find(cursor);
                }
            }
            return readBrackets(names, step);
        }

        private boolean readBrackets(Names names, int step) {
            for (int turn = 0; turn <= MOST_BRACKETS; turn++) {
                int begin = cursor.here;
                if (!cursor.takeIf("[")) {
                    return true;
                }
                if (turn >= MOST_BRACKETS) {
                    return cursor.refuse(BOUND, begin);
                }
                if (!readBracket(names, step * MOST_BRACKETS + turn) || !cursor.take("]")) {
                    return false;
                }
                brackets[step]++;
            }
            return true;
        }

        private boolean readBracket(Names names, int bracket) {
            quotedLength[bracket] = NONE;
            wanted[bracket] = 0;
            if (Cursor.isDigit(cursor.peek())) {
                test[bracket] = NUMBER;
                wanted[bracket] = takeNumber();
                return true;
            }
            if (cursor.takeIf("last()")) {
                test[bracket] = LAST;
                return true;
            }
            if (cursor.takeIf(".=")) {
                test[bracket] = OWN_STRING;
                return readQuoted(bracket);
            }
            test[bracket] = cursor.takeIf("@") ? HAS_ATTRIBUTE : HAS_ELEMENT;
            if (!cursor.needName()) {
                return false;
            }
            wanted[bracket] = names.find(cursor);
            return !cursor.takeIf("=") || readQuoted(bracket);
        }

        private int takeNumber() {
            int number = 0;
            for (int digits = 0; digits < MOST_DIGITS && Cursor.isDigit(cursor.peek()); digits++) {
                number = number * 10 + cursor.peek() - '0';
                cursor.here++;
            }
            return number;
        }

        private boolean readQuoted(int bracket) {
            int quote = cursor.peek();
            if (quote != '"' && quote != '\'') {
                return cursor.refuse(ILL, cursor.here);
            }
            cursor.here++;
            quotedFrom[bracket] = cursor.here;
            while (cursor.here < cursor.size && cursor.peek() != quote) {
                if (!Cursor.isChar(cursor.peek())) {
                    return cursor.refuse(ILL, cursor.here);
                }
                cursor.here++;
            }
            quotedLength[bracket] = cursor.here - quotedFrom[bracket];
            return cursor.take(quote == '"' ? "\"" : "'");
        }
    }

    /** Follows a PATH through a DOCUMENT. */
    private static final class Selector {
        final int[] chosen = new int[MOST_NODES];
        int size = 0;
        private byte[] now = new byte[MOST_NODES];
        private byte[] then = new byte[MOST_NODES];
        // Those to which a STEP leads from one NODE.
        private final int[] row = new int[MOST_NODES];
        private int rowSize = 0;

        void forget() {
            size = 0;
        }

        void follow(Doc doc, Path path, int k) {
            Arrays.fill(now, (byte) 0);
            now[path.fromRoot ? 0 : k] = 1;
            for (int step = 0; step < path.steps; step++) {
                if (path.deep[step] != 0) {
                    spread(doc);
                }
                takeStep(doc, path, step);
            }
            size = 0;
            for (int i = 0; i < doc.size; i++) {
                if (now[i] != 0) {
                    chosen[size] = i;
                    size++;
                }
            }
        }

        /** Adds all ELEMENTS within those that are marked now. */
        private void spread(Doc doc) {
            int reach = 0;
            for (int i = 0; i < doc.size; i++) {
                if (now[i] != 0) {
                    reach = Math.max(reach, doc.end[i]);
                } else if (i < reach && doc.kind[i] == ELEMENT) {
                    now[i] = 1;
                }
            }
        }

        private void takeStep(Doc doc, Path path, int step) {
            Arrays.fill(then, (byte) 0);
            for (int i = 0; i < doc.size; i++) {
                if (now[i] != 0) {
                    lead(doc, path, step, i);
                    for (int turn = 0; turn < path.brackets[step]; turn++) {
                        sift(doc, path, step * Path.MOST_BRACKETS + turn);
                    }
                    for (int j = 0; j < rowSize; j++) {
                        then[row[j]] = 1;
                    }
                }
            }
            byte[] former = now;
            now = then;
            then = former;
        }

        private void lead(Doc doc, Path path, int step, int k) {
            int name = path.stepName[step];
            rowSize = 0;
            switch (path.kind[step]) {
                case Path.ITSELF:
                    push(k);
                    break;
                case Path.UPWARD:
                    if (doc.parent[k] != NONE) {
                        push(doc.parent[k]);
                    }
                    break;
                case Path.TO_ATTRIBUTES:
                    for (int i = k + 1; i <= k + doc.attributes[k]; i++) {
                        if (name == Path.ALL || doc.nameOf[i] == name) {
                            push(i);
                        }
                    }
                    break;
                default:
                    leadInto(doc, k, path.kind[step] == Path.TO_TEXTS ? TEXT : ELEMENT, name);
                    break;
            }
        }

        private void leadInto(Doc doc, int k, int kind, int name) {
            for (int i = doc.firstIn(k); i < doc.end[k]; i = Math.max(i + 1, doc.end[i])) {
                if (doc.kind[i] == kind && (name == Path.ALL || doc.nameOf[i] == name)) {
                    push(i);
                }
            }
        }

        private void push(int k) {
            if (rowSize < MOST_NODES) {
                row[rowSize] = k;
                rowSize++;
            }
        }

        private void sift(Doc doc, Path path, int bracket) {
            int former = rowSize;
            int only = path.test[bracket] == Path.LAST ? former : path.wanted[bracket];
            boolean byPlace = path.test[bracket] == Path.LAST || path.test[bracket] == Path.NUMBER;
            rowSize = 0;
            for (int i = 0; i < former; i++) {
                if (byPlace ? i + 1 == only : passes(doc, path, bracket, row[i])) {
                    push(row[i]);
                }
            }
        }

        private boolean passes(Doc doc, Path path, int bracket, int k) {
            int name = path.wanted[bracket];
            if (path.test[bracket] == Path.OWN_STRING) {
                return isQuoted(doc, path, bracket, k);
            }
            if (path.test[bracket] == Path.HAS_ATTRIBUTE) {
                int attribute = doc.attributeOf(k, name);
                return attribute != NONE && isQuoted(doc, path, bracket, attribute);
            }
            for (int i = doc.firstIn(k); i < doc.end[k]; i = Math.max(i + 1, doc.end[i])) {
                if (doc.kind[i] == ELEMENT && doc.nameOf[i] == name && isQuoted(doc, path, bracket, i)) {
                    return true;
                }
            }
            return false;
        }

        /** Whether a NODE's STRING is what the bracket quotes, if it quotes anything. */
        private boolean isQuoted(Doc doc, Path path, int bracket, int k) {
            int length = path.quotedLength[bracket];
            if (length == NONE) {
                return true;
            }
            return doc.to[k] - doc.from[k] == length
                    && doc.hasBytes(k, path.quotedBytes(), path.quotedFrom[bracket]);
        }
    }

    /** Sets a DOCUMENT into lines and pages. */
    private static final class Composer {
        // The bytes of all lines: a blank between WORDS stands for one S at least, so there are no more
        // than the texts have.
        private final byte[] bytes = new byte[MOST_BYTES];
        private final int[] beginOf = new int[MOST_BYTES];
        final int[] lengthOf = new int[MOST_BYTES];
        final int[] pageOf = new int[MOST_BYTES];
        final int[] placeOf = new int[MOST_BYTES];
        // Where the line's first byte is among the document's texts.
        final int[] sourceOf = new int[MOST_BYTES];
        // How many lines from this one on shall be on one page.
        private final int[] together = new int[MOST_BYTES];
        private final int[] open = new int[MOST_DEPTH];
        private final int[] openedAt = new int[MOST_DEPTH];
        private int openCount = 0;
        private int size = 0;
        private int lineLength = 0;
        private int wordFrom = 0;
        private int wordLength = 0;
        private int width = 1;
        private int height = 1;
        int lines = 0;
        int pages = 0;

        void forget() {
            lines = 0;
            pages = 0;
        }

        int byteOf(int i, int k) {
            return k >= 0 && k < lengthOf[i] ? bytes[beginOf[i] + k] : NONE;
        }

        void compose(Doc doc, int newWidth, int newHeight) {
            width = newWidth;
            height = newHeight;
            openCount = 0;
            size = 0;
            lineLength = 0;
            wordLength = 0;
            lines = 0;
            Arrays.fill(together, 0);
            for (int k = 0; k < doc.size; k++) {
                closeBlocks(doc, k);
                if (doc.kind[k] == TEXT) {
                    takeText(doc, k);
                } else if (isBlock(doc, k)) {
                    openBlock(doc, k);
                }
            }
            closeBlocks(doc, doc.size);
            endLine(doc);
            layPages();
        }

        private static boolean isBlock(Doc doc, int k) {
            int initial = doc.names.byteOf(doc.nameOf[k], 0);
            return doc.kind[k] == ELEMENT && initial >= 'A' && initial <= 'Z';
        }

        private void openBlock(Doc doc, int k) {
            endLine(doc);
            if (openCount < MOST_DEPTH) {
                open[openCount] = k;
                openedAt[openCount] = lines;
                openCount++;
            }
        }

        /** Closes the BLOCKS that end ahead of a NODE. */
        private void closeBlocks(Doc doc, int k) {
            while (openCount > 0 && doc.end[open[openCount - 1]] <= k) {
                openCount--;
                endLine(doc);
                int begin = openedAt[openCount];
                int length = lines - begin;
                if (length > 0 && length <= height && isKept(doc, open[openCount])) {
                    together[begin] = Math.max(together[begin], length);
                }
            }
        }

        private static boolean isKept(Doc doc, int k) {
            for (int i = k + 1; i <= k + doc.attributes[k]; i++) {
                boolean one = doc.to[i] - doc.from[i] == 1 && doc.stringByte(i, 0) == '1';
                if (one && isNamedKeep(doc.names, doc.nameOf[i])) {
                    return true;
                }
            }
            return false;
        }

        private static boolean isNamedKeep(Names names, int id) {
            return names.lengthOf(id) == 4 && names.byteOf(id, 0) == 'k' && names.byteOf(id, 1) == 'e'
                    && names.byteOf(id, 2) == 'e' && names.byteOf(id, 3) == 'p';
        }

        private void takeText(Doc doc, int k) {
            for (int i = doc.from[k]; i < doc.to[k]; i++) {
                if (Cursor.isSpace(doc.texts[i])) {
                    endWord(doc);
                } else {
                    if (wordLength == 0) {
                        wordFrom = i;
                    }
                    wordLength++;
                }
            }
        }

        private void endWord(Doc doc) {
            if (wordLength > width) {
                finishLine();
            }
            for (int turn = 0; turn < MOST_BYTES && wordLength > width; turn++) {
                append(doc, width);
                finishLine();
                wordFrom += width;
                wordLength -= width;
            }
            if (wordLength > 0) {
                if (lineLength + 1 + wordLength > width) {
                    finishLine();
                }
                append(doc, wordLength);
            }
            wordLength = 0;
        }

        /** Puts the first bytes of the WORD behind the line, with a blank if there is anything ahead. */
        private void append(Doc doc, int length) {
            int blank = lineLength == 0 ? 0 : 1;
            if (lines >= MOST_BYTES || size + blank + length > MOST_BYTES) {
                return;
            }
            if (blank == 0) {
                beginOf[lines] = size;
                sourceOf[lines] = wordFrom;
            } else {
                bytes[size] = ' ';
                size++;
                lineLength++;
            }
            System.arraycopy(doc.texts, wordFrom, bytes, size, length);
            size += length;
            lineLength += length;
        }

        private void finishLine() {
            if (lineLength > 0 && lines < MOST_BYTES) {
                lengthOf[lines] = lineLength;
                lines++;
            }
            lineLength = 0;
        }

        private void endLine(Doc doc) {
            endWord(doc);
            finishLine();
        }

        private void layPages() {
            int page = 0;
            int place = 0;
            for (int i = 0; i < lines; i++) {
                if (place >= height || place + together[i] > height) {
                    page++;
                    place = 0;
                }
                pageOf[i] = page;
                placeOf[i] = place;
                place++;
            }
            pages = lines == 0 ? 0 : page + 1;
        }
    }
}
