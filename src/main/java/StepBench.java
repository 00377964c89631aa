/**
 * Paths into values of JSON: what they lead to, values put there, parts cut out, slices, and all
 * paths that there are. The numbered promises stand in the project's document.
 *
 * <p>A REGISTER holds its VALUE as it is PRINTED, in a row of bytes that the constructor makes.
 * Every call writes what would come to a REGISTER into one spare row, the draft, and changes the
 * two rows' places once nothing can go wrong any more: so no call makes an object, and one that
 * throws leaves everything as it was.
 */
public final class StepBench {
    private static final int TEXT_SIZE = 4096;
    private static final int FEED_BYTES = 20;
    private static final int WORD_BYTES = 8;
    private static final int REGISTERS = 8;
    private static final int MAX_READ_DEPTH = 40;
    private static final int MAX_DEPTH = 60;
    private static final int MAX_STEPS = 100;
    private static final int MAX_PATHS = 100;
    private static final int MAX_PLACE = 1000;
    private static final long MAX_NUMBER = (1L << 53) - 1;

    // The names of a part's bounds, as PRINTED.
    private static final String START = "\"start\"";
    private static final String END = "\"end\"";

    /** No byte, no place, no item: nothing is there. */
    private static final int NONE = -1;

    // The kinds of VALUES; their numbers go up as ORDER does.
    private static final int NULL = 0;
    private static final int FALSE = 1;
    private static final int TRUE = 2;
    private static final int NUMBER = 3;
    private static final int STRING = 4;
    private static final int ARRAY = 5;
    private static final int OBJECT = 6;

    // The REASONS, as count(3) tells them.
    private static final int FINE = 0;
    private static final int TYPE = 1;
    private static final int RANGE = 2;

    private final Text tape = new Text();
    private final Text result = new Text();
    private final Text[] registers = new Text[REGISTERS];
    private final Reader reader;
    private final Order order = new Order();
    private final Spot spot;
    private final Putter putter;
    private final Cutter cutter;
    private final Lister lister;
    private Text draft = new Text();
    private int broken = NONE;
    private int reason = FINE;

    public StepBench() {
        for (int r = 0; r < REGISTERS; r++) {
            registers[r] = new Text();
            registers[r].putText("null");
        }
        spot = new Spot(draft);
        reader = new Reader(tape, draft);
        putter = new Putter(spot, draft);
        cutter = new Cutter(spot, order);
        lister = new Lister(draft);
    }

    public int feed(int a, int b, int c, int d, int e) throws IndexOutOfBoundsException {
        if (tape.length() + FEED_BYTES > TEXT_SIZE) {
            throw new IndexOutOfBoundsException();
        }
        tape.putInt(a);
        tape.putInt(b);
        tape.putInt(c);
        tape.putInt(d);
        tape.putInt(e);
        return tape.length();
    }

    public int end(int n) throws IllegalArgumentException {
        if (n < 0 || n > tape.length()) {
            throw new IllegalArgumentException();
        }
        tape.keepFirst(n);
        return n;
    }

    public int read(int r) throws IllegalArgumentException, UnsupportedOperationException, IndexOutOfBoundsException {
        checkRegister(r);
        broken = reader.parse(draft);
        tape.clear();
        if (broken != NONE) {
            throw new UnsupportedOperationException();
        }
        keep(r);
        return registers[r].length();
    }

    public int print(int r) throws IllegalArgumentException {
        checkRegister(r);
        result.copy(registers[r]);
        return result.length();
    }

    public void get(int to, int a, int p) throws IllegalArgumentException, ArithmeticException, IndexOutOfBoundsException {
        checkRegister(to);
        checkRegister(a);
        checkRegister(p);
        refuseUnlessFine(registers[p].kind(0) == ARRAY ? FINE : TYPE);
        refuseUnlessFine(spot.follow(registers[a], registers[p], 0));
        draft.clear();
        spot.writeTo(draft);
        keep(to);
    }

    public void set(int to, int a, int p, int v) throws IllegalArgumentException, ArithmeticException, IndexOutOfBoundsException {
        checkRegister(to);
        checkRegister(a);
        checkRegister(p);
        checkRegister(v);
        refuseUnlessFine(putter.put(registers[a], registers[p], registers[v], draft));
        keep(to);
    }

    public void del(int to, int a, int ps) throws IllegalArgumentException, ArithmeticException, IndexOutOfBoundsException {
        checkRegister(to);
        checkRegister(a);
        checkRegister(ps);
        refuseUnlessFine(cutter.lookAt(registers[ps]));
        if (cutter.areTooMany()) {
            throw new IndexOutOfBoundsException();
        }
        cutter.sortPaths(registers[ps]);
        draft.copy(registers[a]);
        for (int n = cutter.paths() - 1; n >= 0; n--) {
            refuseUnlessFine(cutter.cut(draft, registers[ps], n));
        }
        keep(to);
    }

    public void all(int to, int a) throws IllegalArgumentException, IndexOutOfBoundsException {
        checkRegister(to);
        checkRegister(a);
        lister.list(registers[a], draft);
        keep(to);
    }

    public boolean same(int a, int b) throws IllegalArgumentException {
        checkRegister(a);
        checkRegister(b);
        return order.compare(registers[a], 0, registers[b], 0, 0) == 0;
    }

    public long word(int i) throws IndexOutOfBoundsException {
        if (i < 0 || i >= result.length()) {
            throw new IndexOutOfBoundsException();
        }
        long bytes = 0;
        for (int k = 0; k < WORD_BYTES; k++) {
            bytes = bytes << 8 | Math.max(result.at(i + k), 0);
        }
        return bytes;
    }

    public int count(int what) throws IllegalArgumentException {
        switch (what) {
            case 0:
                return tape.length();
            case 1:
                return result.length();
            case 2:
                return broken;
            case 3:
                return reason;
            default:
                throw new IllegalArgumentException();
        }
    }

    private static void checkRegister(int r) {
        if (r < 0 || r >= REGISTERS) {
            throw new IllegalArgumentException();
        }
    }

    private void refuseUnlessFine(int why) {
        if (why != FINE) {
            reason = why;
            throw new ArithmeticException();
        }
    }

    /**
     * The draft becomes REGISTER r, if the LIMITS let it. The WEIGHT needs no look of its own: a
     * VALUE never weighs more than it has bytes PRINTED, and 4096 of these are the LIMIT.
     */
    private void keep(int r) {
        if (draft.isOver() || draft.depth() > MAX_DEPTH) {
            throw new IndexOutOfBoundsException();
        }
        Text old = registers[r];
        registers[r] = draft;
        draft = old;
    }

    /**
     * A row of bytes; what would not fit is left out and remembered. Where it holds a VALUE as
     * PRINTED, a value, an item or a name is told by the place of its first byte; an item is an
     * ARRAY's element, or an OBJECT's name together with its VALUE.
     */
    private static final class Text {
        private final byte[] bytes = new byte[TEXT_SIZE];
        private int length;
        private boolean over;

        int length() {
            return length;
        }

        boolean isOver() {
            return over;
        }

        int at(int i) {
            return i >= 0 && i < length ? bytes[i] & 0xFF : NONE;
        }

        void clear() {
            length = 0;
            over = false;
        }

        void keepFirst(int n) {
            length = Math.max(0, Math.min(n, length));
        }

        void put(int b) {
            if (length < TEXT_SIZE) {
                bytes[length] = (byte) b;
                length++;
            } else {
                over = true;
            }
        }

        void putInt(int n) {
            put(n >> 24);
            put(n >> 16);
            put(n >> 8);
            put(n);
        }

        void putText(String text) {
            for (int i = 0; i < text.length(); i++) {
                put(text.charAt(i));
            }
        }

        void putPart(Text source, int from, int to) {
            int low = Math.max(0, from);
            int wanted = Math.max(0, Math.min(to, source.length) - low);
            int fitting = Math.min(wanted, TEXT_SIZE - length);
            System.arraycopy(source.bytes, fitting > 0 ? low : 0, bytes, length, fitting);
            length += fitting;
            over = over || fitting < wanted;
        }

        void copy(Text source) {
            clear();
            putPart(source, 0, source.length);
        }

        void cut(int from, int to) {
            if (from >= 0 && from < to && to <= length) {
                System.arraycopy(bytes, to, bytes, from, length - to);
                length -= to - from;
            }
        }

        /** A character of a STRING as PRINTED. */
        void putCharacter(int c) {
            int letter = Signs.letterOf(c);
            if (letter != NONE) {
                put('\\');
                put(letter);
            } else if (c >= 32 && c < 127) {
                put(c);
            } else {
                put('\\');
                put('u');
                put('0');
                put('0');
                put(Signs.hexDigit(c >> 4));
                put(Signs.hexDigit(c));
            }
        }

        /** A NUMBER that is not below 0, as PRINTED. */
        void putPlace(int n) {
            int unit = 1;
            for (int digits = 1; digits < 10 && n / unit >= 10; digits++) {
                unit *= 10;
            }
            for (int left = unit; left > 0; left /= 10) {
                put('0' + n / left % 10);
            }
        }

        /** The kind of the VALUE at p; what is not there is null. */
        int kind(int p) {
            switch (at(p)) {
                case 'f':
                    return FALSE;
                case 't':
                    return TRUE;
                case '"':
                    return STRING;
                case '[':
                    return ARRAY;
                case '{':
                    return OBJECT;
                case 'n':
                case NONE:
                    return NULL;
                default:
                    return NUMBER;
            }
        }

        /** The place behind the value or name at p. */
        int past(int p) {
            return nextSign(p, true);
        }

        /** The place behind the item at q. */
        int itemEnd(int q) {
            return nextSign(q, false);
        }

        /** The next comma or closing sign, or colon if wanted, that is outside what begins at p. */
        private int nextSign(int p, boolean colonToo) {
            int open = 0;
            boolean quoted = false;
            for (int i = Math.max(p, 0); i < length; i++) {
                int b = bytes[i];
                if (quoted) {
                    quoted = b != '"';
                    if (b == '\\') {
                        i++;
                    }
                } else if (b == '"') {
                    quoted = true;
                } else if (b == '[' || b == '{') {
                    open++;
                } else if (open == 0 && (b == ',' || b == ']' || b == '}' || b == ':' && colonToo)) {
                    return i;
                } else if (b == ']' || b == '}') {
                    open--;
                }
            }
            return length;
        }

        /** How many ARRAYS and OBJECTS are within one another. */
        int depth() {
            int open = 0;
            int deepest = 0;
            boolean quoted = false;
            for (int i = 0; i < length; i++) {
                int b = bytes[i];
                if (quoted) {
                    quoted = b != '"';
                    if (b == '\\') {
                        i++;
                    }
                } else if (b == '"') {
                    quoted = true;
                } else if (b == '[' || b == '{') {
                    open++;
                    deepest = Math.max(deepest, open);
                } else if (b == ']' || b == '}') {
                    open--;
                }
            }
            return deepest;
        }

        long number(int p) {
            boolean below = at(p) == '-';
            long n = 0;
            for (int i = below ? p + 1 : p; i < length && Signs.isDigit(at(i)); i++) {
                n = n * 10 + (at(i) - '0');
            }
            return below ? -n : n;
        }

        /** The character that is printed at i in a STRING; NONE at the STRING's end. */
        int character(int i) {
            int b = at(i);
            if (b == '"') {
                return NONE;
            }
            if (b != '\\') {
                return b;
            }
            int letter = at(i + 1);
            if (letter == 'u') {
                return Signs.hexValue(at(i + 4)) * 16 + Signs.hexValue(at(i + 5));
            }
            return Signs.meaningOf(letter);
        }

        /** How many bytes the character at i in a STRING is printed with. */
        int width(int i) {
            if (at(i) != '\\') {
                return 1;
            }
            return at(i + 1) == 'u' ? 6 : 2;
        }

        /** How many characters the STRING at p has. */
        int characters(int p) {
            int n = 0;
            for (int i = p + 1; i < length && at(i) != '"'; i += width(i)) {
                n++;
            }
            return n;
        }

        /** Where character k of the STRING at p is printed, or its end, if k is their number. */
        int characterPlace(int p, int k) {
            int i = p + 1;
            for (int n = 0; n < k; n++) {
                i += width(i);
            }
            return i;
        }

        /** Whether the STRINGS are the same; PRINTED, each has one form alone. */
        boolean isSameString(int p, Text other, int q) {
            boolean escaped = false;
            for (int i = 1; i < TEXT_SIZE; i++) {
                int b = at(p + i);
                if (b != other.at(q + i)) {
                    return false;
                }
                if (b == '"' && !escaped) {
                    return true;
                }
                escaped = b == '\\' && !escaped;
            }
            return false;
        }

        /** The first item in the ARRAY or OBJECT at p, NONE if it is empty. */
        int firstItem(int p) {
            int b = at(p + 1);
            return b == ']' || b == '}' ? NONE : p + 1;
        }

        /** The item that comes behind the one at q, NONE if that is the last. */
        int nextItem(int q) {
            int end = nextSign(q, false);
            return at(end) == ',' ? end + 1 : NONE;
        }

        /** How many items the ARRAY or OBJECT at p has. */
        int items(int p) {
            int n = 0;
            int q = firstItem(p);
            while (q != NONE && n < length) {
                n++;
                q = nextItem(q);
            }
            return n;
        }

        /** Item k of the ARRAY or OBJECT at p, NONE if there is none. */
        int item(int p, int k) {
            int q = firstItem(p);
            for (int n = 0; n < k && q != NONE; n++) {
                q = nextItem(q);
            }
            return q;
        }

        /** The VALUE by the name at q; NONE for no name. */
        int valueOf(int q) {
            return q == NONE ? NONE : past(q) + 1;
        }

        /** The item of the OBJECT at p whose name is the STRING at q in another text, or NONE. */
        int named(int p, Text other, int q) {
            int item = firstItem(p);
            for (int n = 0; n < length && item != NONE; n++) {
                if (isSameString(item, other, q)) {
                    return item;
                }
                item = nextItem(item);
            }
            return NONE;
        }

        /** The item of the OBJECT at p that begins with a name as PRINTED, or NONE. */
        int itemBy(int p, String printed) {
            int item = firstItem(p);
            for (int n = 0; n < length && item != NONE; n++) {
                if (begins(item, printed)) {
                    return item;
                }
                item = nextItem(item);
            }
            return NONE;
        }

        private boolean begins(int p, String beginning) {
            for (int i = 0; i < beginning.length(); i++) {
                if (at(p + i) != beginning.charAt(i)) {
                    return false;
                }
            }
            return true;
        }
    }

    /** What single signs mean, in JSON and PRINTED. */
    private static final class Signs {
        static boolean isBlank(int b) {
            return b == 9 || b == 10 || b == 13 || b == 32;
        }

        static boolean isDigit(int b) {
            return b >= '0' && b <= '9';
        }

        static int hexDigit(int n) {
            int low = n & 15;
            return low < 10 ? '0' + low : 'a' + low - 10;
        }

        static int hexValue(int b) {
            if (b >= '0' && b <= '9') {
                return b - '0';
            }
            if (b >= 'a' && b <= 'f') {
                return b - 'a' + 10;
            }
            return b >= 'A' && b <= 'F' ? b - 'A' + 10 : NONE;
        }

        /** The sign that is PRINTED behind \ for a character, NONE if there is none. */
        static int letterOf(int c) {
            switch (c) {
                case '"':
                case '\\':
                    return c;
                case 8:
                    return 'b';
                case 9:
                    return 't';
                case 10:
                    return 'n';
                case 12:
                    return 'f';
                case 13:
                    return 'r';
                default:
                    return NONE;
            }
        }

        /** The character that \ and a sign stand for in JSON, NONE if they stand for none. */
        static int meaningOf(int letter) {
            switch (letter) {
                case '"':
                case '\\':
                case '/':
                    return letter;
                case 'b':
                    return 8;
                case 't':
                    return 9;
                case 'n':
                    return 10;
                case 'f':
                    return 12;
                case 'r':
                    return 13;
                default:
                    return NONE;
            }
        }
    }

    /** Reads the TAPE as JSON and writes it out as PRINTED. */
    private static final class Reader {
        private final Text tape;
        private Text out;
        private int here;
        private int broken;

        Reader(Text tape, Text out) {
            this.tape = tape;
            this.out = out;
        }

        /** Answers the PLACE where the TAPE is broken, NONE if it is JSON. */
        int parse(Text draft) {
            out = draft;
            out.clear();
            here = 0;
            broken = NONE;
            skipBlanks();
            readValue(0);
            skipBlanks();
            if (here < tape.length()) {
                breakAt(here);
            }
            return broken;
        }

        private boolean isFine() {
            return broken == NONE;
        }

        /** The first fault is the one that is told. */
        private void breakAt(int place) {
            if (broken == NONE) {
                broken = place;
            }
        }

        private void skipBlanks() {
            while (here < tape.length() && Signs.isBlank(tape.at(here))) {
                here++;
            }
        }

        /** Goes over a sign that must stand here. */
        private void take(int sign) {
            if (tape.at(here) == sign) {
                here++;
                out.put(sign);
            } else {
                breakAt(here);
            }
        }

        private void readValue(int depth) {
            int b = tape.at(here);
            if (b == '[' || b == '{') {
                readItems(b, depth);
            } else if (b == '"') {
                readString();
            } else if (b == 'n') {
                readLiteral("null");
            } else if (b == 'f') {
                readLiteral("false");
            } else if (b == 't') {
                readLiteral("true");
            } else {
                readNumber();
            }
        }

        private void readItems(int opening, int depth) {
            if (depth >= MAX_READ_DEPTH) {
                breakAt(here);
                return;
            }
            int box = out.length();
            int closing = opening == '[' ? ']' : '}';
            take(opening);
            skipBlanks();
            boolean more = tape.at(here) != closing;
            for (int n = 0; n < TEXT_SIZE && more; n++) {
                if (opening == '{') {
                    readName(box);
                }
                if (isFine()) {
                    readValue(depth + 1);
                    skipBlanks();
                }
                more = isFine() && tape.at(here) == ',';
                if (more) {
                    take(',');
                    skipBlanks();
                }
            }
            take(closing);
        }

        /** A name and the sign behind it, within the OBJECT that is written from box on. */
        private void readName(int box) {
            int start = here;
            int name = out.length();
            if (tape.at(here) != '"') {
                breakAt(here);
                return;
            }
            readString();
            if (isFine() && wasThere(box, name)) {
                breakAt(start);
            }
            skipBlanks();
            take(':');
            skipBlanks();
        }

        private boolean wasThere(int box, int name) {
            int item = box + 1;
            for (int n = 0; n < name && item < name; n++) {
                if (out.isSameString(item, out, name)) {
                    return true;
                }
                item = out.itemEnd(item) + 1;
            }
            return false;
        }

        private void readLiteral(String literal) {
            for (int i = 0; i < literal.length(); i++) {
                take(literal.charAt(i));
            }
        }

        private void readNumber() {
            int start = here;
            if (tape.at(here) == '-') {
                here++;
            }
            if (!Signs.isDigit(tape.at(here))) {
                breakAt(here);
                return;
            }
            long size = readDigits();
            if (size > MAX_NUMBER) {
                breakAt(start);
            } else if (size == 0) {
                out.put('0');
            } else {
                out.putPart(tape, start, here);
            }
        }

        /** The size of a NUMBER; one that is too great is only told as too great. */
        private long readDigits() {
            long size = tape.at(here) - '0';
            here++;
            boolean more = size > 0;
            while (more && here < tape.length() && Signs.isDigit(tape.at(here))) {
                if (size <= MAX_NUMBER) {
                    size = size * 10 + tape.at(here) - '0';
                }
                here++;
            }
            return size;
        }

        private void readString() {
            take('"');
            for (int n = 0; n < TEXT_SIZE && isFine() && tape.at(here) != '"'; n++) {
                int c = tape.at(here) == '\\' ? readEscape() : readPlain();
                if (isFine()) {
                    out.putCharacter(c);
                }
            }
            take('"');
        }

        private int readPlain() {
            int b = tape.at(here);
            if (b < 32 || b > 126) {
                breakAt(here);
            }
            here++;
            return b;
        }

        private int readEscape() {
            int start = here;
            int letter = tape.at(here + 1);
            int c = letter == 'u' ? 0 : Signs.meaningOf(letter);
            if (c == NONE) {
                breakAt(here + 1);
            }
            here += 2;
            for (int n = 0; n < 4 && letter == 'u' && isFine(); n++) {
                int digit = Signs.hexValue(tape.at(here));
                if (digit == NONE) {
                    breakAt(here);
                }
                c = c * 16 + digit;
                here++;
            }
            if (c > 127) {
                breakAt(start);
            }
            return c;
        }
    }

    /** ORDER: which of two VALUES comes first. */
    private static final class Order {
        /** The names of the OBJECTS that are being compared; two texts have no more than 1640. */
        private final int[] names = new int[TEXT_SIZE / 2];
        private int top;

        /** Below 0, 0 or above 0, as a at p comes before b at q, is the same, or comes behind it. */
        private int compare(Text a, int p, Text b, int q, int depth) {
            int kind = a.kind(p);
            if (kind != b.kind(q)) {
                return Integer.compare(kind, b.kind(q));
            }
            if (depth > MAX_DEPTH) {
                return 0;
            }
            switch (kind) {
                case NUMBER:
                    return Long.compare(a.number(p), b.number(q));
                case STRING:
                    return compareStrings(a, p, b, q);
                case ARRAY:
                    return compareArrays(a, p, b, q, depth);
                case OBJECT:
                    return compareObjects(a, p, b, q, depth);
                default:
                    return 0;
            }
        }

        private static int compareStrings(Text a, int p, Text b, int q) {
            int i = p + 1;
            int j = q + 1;
            for (int n = 0; n < TEXT_SIZE; n++) {
                int c = a.character(i);
                int d = b.character(j);
                if (c != d || c == NONE) {
                    return Integer.compare(c, d);
                }
                i += a.width(i);
                j += b.width(j);
            }
            return 0;
        }

        private int compareArrays(Text a, int p, Text b, int q, int depth) {
            int i = a.firstItem(p);
            int j = b.firstItem(q);
            for (int n = 0; n < TEXT_SIZE && i != NONE && j != NONE; n++) {
                int found = compare(a, i, b, j, depth + 1);
                if (found != 0) {
                    return found;
                }
                i = a.nextItem(i);
                j = b.nextItem(j);
            }
            return Integer.compare(i == NONE ? 0 : 1, j == NONE ? 0 : 1);
        }

        private int compareObjects(Text a, int p, Text b, int q, int depth) {
            int low = top;
            gather(a, p);
            int middle = top;
            gather(b, q);
            int high = top;
            int found = compareNames(a, b, low, middle, high);
            for (int k = 0; k < middle - low && found == 0; k++) {
                int value = a.valueOf(names[low + k]);
                int other = b.valueOf(names[middle + k]);
                found = compare(a, value, b, other, depth + 1);
            }
            top = low;
            return found;
        }

        /** Puts the names of the OBJECT at p, sorted, onto the row. */
        private void gather(Text text, int p) {
            int low = top;
            int item = text.firstItem(p);
            while (item != NONE && top < names.length) {
                names[top] = item;
                top++;
                item = text.nextItem(item);
            }
            for (int gap = (top - low) / 2; gap > 0; gap /= 2) {
                for (int i = low + gap; i < top; i++) {
                    int moved = names[i];
                    int k = i;
                    while (k >= low + gap && compareStrings(text, names[k - gap], text, moved) > 0) {
                        names[k] = names[k - gap];
                        k -= gap;
                    }
                    names[k] = moved;
                }
            }
        }

        /** The names of a stand from low to before middle, those of b from there to before high. */
        private int compareNames(Text a, Text b, int low, int middle, int high) {
            int shorter = Math.min(middle - low, high - middle);
            for (int k = 0; k < shorter; k++) {
                int found = compareStrings(a, names[low + k], b, names[middle + k]);
                if (found != 0) {
                    return found;
                }
            }
            return Integer.compare(middle - low, high - middle);
        }
    }

    /** Where a PATH leads to: a VALUE in a text, a part of an ARRAY or STRING in it, or nothing. */
    private static final class Spot {
        private Text text;
        private int place;
        private int item;
        private boolean part;
        private int low;
        private int high;

        Spot(Text text) {
            this.text = text;
        }

        void start(Text whole) {
            text = whole;
            place = 0;
            item = 0;
            part = false;
        }

        /** Goes along the PATH at p as far as there is something; answers what is wrong. */
        int follow(Text whole, Text path, int p) {
            start(whole);
            int q = path.firstItem(p);
            for (int n = 0; n < TEXT_SIZE && q != NONE; n++) {
                if (isNull()) {
                    // Behind null there is nothing, even where null itself is something.
                    moveTo(NONE, NONE);
                    return FINE;
                }
                int why = step(path, q);
                if (why != FINE) {
                    return why;
                }
                q = path.nextItem(q);
            }
            return FINE;
        }

        /** Takes a step from what is not null; answers what is wrong. */
        int step(Text path, int q) {
            switch (path.kind(q)) {
                case STRING:
                    return stepByName(path, q);
                case NUMBER:
                    return stepByPlace(path.number(q));
                case OBJECT:
                    return stepByPart(path, q);
                default:
                    return TYPE;
            }
        }

        int kind() {
            return text.kind(place);
        }

        boolean isNull() {
            return kind() == NULL;
        }

        boolean isNothing() {
            return place == NONE;
        }

        boolean isPart() {
            return part;
        }

        int place() {
            return place;
        }

        /** How many items the ARRAY, its part, or the OBJECT has. */
        int size() {
            return part ? high - low : text.items(place);
        }

        /** The number of the item that comes behind the part, or behind all of them. */
        int itemBehind() {
            return part ? high : text.items(place);
        }

        /** A place that may be told from the end of so many; below 0 if it is before all. */
        static long fromStart(long n, int size) {
            return n < 0 ? n + size : n;
        }

        /** The bytes that are there, with the name, if there is one. */
        void span(Gap gap) {
            if (part) {
                gap.spanItems(text, place, low, high);
            } else {
                gap.span(item, text.past(place));
            }
        }

        void writeTo(Text out) {
            if (isNothing()) {
                out.putText("null");
            } else if (!part) {
                out.putPart(text, place, text.past(place));
            } else if (kind() == STRING) {
                out.put('"');
                out.putPart(text, text.characterPlace(place, low), text.characterPlace(place, high));
                out.put('"');
            } else {
                out.put('[');
                if (low < high) {
                    out.putPart(text, text.item(place, low), text.itemEnd(text.item(place, high - 1)));
                }
                out.put(']');
            }
        }

        /** Whether "start" and "end" of the step at q are NUMBERS or null. */
        static boolean hasBounds(Text path, int q) {
            int start = path.valueOf(path.itemBy(q, START));
            int end = path.valueOf(path.itemBy(q, END));
            return isBound(path, start) && isBound(path, end);
        }

        private static boolean isBound(Text path, int value) {
            int kind = path.kind(value);
            return kind == NUMBER || kind == NULL;
        }

        private int stepByName(Text path, int q) {
            if (kind() != OBJECT) {
                return TYPE;
            }
            int found = text.named(place, path, q);
            moveTo(found, text.valueOf(found));
            return FINE;
        }

        private int stepByPlace(long n) {
            if (kind() != ARRAY) {
                return TYPE;
            }
            int size = part ? high - low : text.items(place);
            long wanted = fromStart(n, size);
            boolean there = wanted >= 0 && wanted < size;
            int found = there ? text.item(place, (part ? low : 0) + (int) wanted) : NONE;
            moveTo(found, found);
            return FINE;
        }

        private int stepByPart(Text path, int q) {
            int start = path.valueOf(path.itemBy(q, START));
            int end = path.valueOf(path.itemBy(q, END));
            boolean ofString = kind() == STRING;
            if (kind() != ARRAY && !ofString || !isBound(path, start) || !isBound(path, end)) {
                return TYPE;
            }
            if (!part) {
                part = true;
                low = 0;
                high = ofString ? text.characters(place) : text.items(place);
            }
            int size = high - low;
            int from = bound(path, start, size, 0);
            int to = bound(path, end, size, size);
            high = low + Math.max(from, to);
            low += from;
            return FINE;
        }

        private static int bound(Text path, int value, int size, int otherwise) {
            if (path.kind(value) == NULL) {
                return otherwise;
            }
            return (int) Math.max(0, Math.min(fromStart(path.number(value), size), size));
        }

        private void moveTo(int nextItem, int nextPlace) {
            item = nextItem;
            place = nextPlace;
            part = false;
        }
    }

    /** Bytes of a text that go, or a place between two of them, and the commas that are needed. */
    private static final class Gap {
        private int from;
        private int to;
        private boolean commaBefore;
        private boolean commaBehind;

        int from() {
            return from;
        }

        int to() {
            return to;
        }

        boolean needsCommaBefore() {
            return commaBefore;
        }

        boolean needsCommaBehind() {
            return commaBehind;
        }

        void span(int low, int high) {
            from = low;
            to = high;
            commaBefore = false;
            commaBehind = false;
        }

        /** Items low to before high of the ARRAY or OBJECT at box; if none, the place before low. */
        void spanItems(Text text, int box, int low, int high) {
            int total = text.items(box);
            if (low < high) {
                span(text.item(box, low), text.itemEnd(text.item(box, high - 1)));
            } else if (low < total) {
                int next = text.item(box, low);
                span(next, next);
                commaBehind = true;
            } else {
                int closing = text.past(box) - 1;
                span(closing, closing);
                commaBefore = total > 0;
            }
        }

        /** For items that go and leave nothing: one comma beside them goes, too. */
        void closeUp(Text text) {
            commaBefore = false;
            commaBehind = false;
            if (from < to && text.at(to) == ',') {
                to++;
            } else if (from < to && text.at(from - 1) == ',') {
                from--;
            }
        }
    }

    /**
     * Puts a VALUE at the end of a PATH. It goes along the PATH as long as there is something; what
     * null has to become for the steps that are left is written to the draft at once.
     */
    private static final class Putter {
        private final Spot spot;
        private final Gap gap = new Gap();
        /** The signs that close what null has become, the innermost last. */
        private final byte[] closings = new byte[MAX_STEPS];
        private int open;
        private Text from;
        private Text out;
        private boolean writing;
        private boolean behindPart;
        private boolean nameBehindPart;

        Putter(Spot spot, Text text) {
            this.spot = spot;
            this.from = text;
            this.out = text;
        }

        /** Writes a with v at the end of the path to the draft; answers what is wrong. */
        int put(Text a, Text path, Text v, Text draft) {
            if (path.kind(0) != ARRAY) {
                return TYPE;
            }
            int steps = path.items(0);
            if (steps > MAX_STEPS) {
                return RANGE;
            }
            begin(a, draft);
            int q = path.firstItem(0);
            for (int n = 0; n < steps; n++) {
                if (!writing) {
                    replaceNull(path, q);
                }
                int why = writing ? growNull(path, q) : goOn(path, q);
                if (why != FINE) {
                    return why;
                }
                q = path.nextItem(q);
            }
            boolean atPart = writing ? behindPart : spot.isPart();
            if (nameBehindPart || atPart && v.kind(0) != ARRAY) {
                return TYPE;
            }
            if (!writing && atPart) {
                fillPart(v);
            } else {
                fillPlace(v);
            }
            close();
            return FINE;
        }

        private void begin(Text a, Text draft) {
            from = a;
            out = draft;
            out.clear();
            spot.start(a);
            open = 0;
            writing = false;
            behindPart = false;
            nameBehindPart = false;
        }

        /**
         * Null is replaced by what the steps make of it. A name behind a part can't be, but what is
         * wrong behind it is told before: so an ARRAY's part is left there as if it were null's, and
         * the name is told at the end of the PATH.
         */
        private void replaceNull(Text path, int q) {
            boolean nameOfPart = spot.isPart() && path.kind(q) == STRING;
            if (nameOfPart || spot.isNull()) {
                behindPart = nameOfPart;
                replaceValue();
            }
        }

        /** What is there goes; what comes instead of it is written from here on. */
        private void replaceValue() {
            gap.span(spot.place(), from.past(spot.place()));
            startWriting();
        }

        private void startWriting() {
            writing = true;
            out.putPart(from, 0, gap.from());
            if (gap.needsCommaBefore()) {
                out.put(',');
            }
        }

        /** A step from what is there. */
        private int goOn(Text path, int q) {
            int kind = spot.kind();
            // A STRING has parts, but none that a VALUE could be put to.
            if (kind != ARRAY && kind != OBJECT) {
                return TYPE;
            }
            boolean byPlace = kind == ARRAY && path.kind(q) == NUMBER;
            int box = spot.place();
            int size = spot.size();
            int behind = spot.itemBehind();
            long place = byPlace ? Spot.fromStart(path.number(q), size) : 0;
            if (place < 0 || place > MAX_PLACE) {
                return RANGE;
            }
            int why = spot.step(path, q);
            if (why != FINE || !spot.isNothing()) {
                return why;
            }
            gap.spanItems(from, box, behind, behind);
            startWriting();
            if (byPlace) {
                putNulls((int) place - size);
            } else {
                putName(path, q);
            }
            return FINE;
        }

        /** A step from null, which becomes what the step needs. */
        private int growNull(Text path, int q) {
            switch (path.kind(q)) {
                case STRING:
                    nameBehindPart = nameBehindPart || behindPart;
                    openWith('{', '}');
                    putName(path, q);
                    return FINE;
                case NUMBER:
                    long place = path.number(q);
                    if (place < 0 || place > MAX_PLACE) {
                        return RANGE;
                    }
                    openWith('[', ']');
                    putNulls((int) place);
                    return FINE;
                case OBJECT:
                    behindPart = true;
                    return Spot.hasBounds(path, q) ? FINE : TYPE;
                default:
                    return TYPE;
            }
        }

        private void openWith(int opening, int closing) {
            behindPart = false;
            out.put(opening);
            if (open < closings.length) {
                closings[open] = (byte) closing;
                open++;
            }
        }

        private void putName(Text path, int q) {
            out.putPart(path, q, path.past(q));
            out.put(':');
        }

        private void putNulls(int n) {
            for (int k = 0; k < n && !out.isOver(); k++) {
                out.putText("null,");
            }
        }

        private void fillPlace(Text v) {
            if (!writing) {
                replaceValue();
            }
            out.putPart(v, 0, v.length());
        }

        /** The elements of v come where the part's elements were. */
        private void fillPart(Text v) {
            spot.span(gap);
            if (v.items(0) == 0) {
                gap.closeUp(from);
            }
            startWriting();
            out.putPart(v, 1, v.length() - 1);
        }

        private void close() {
            for (int k = open - 1; k >= 0; k--) {
                out.put(closings[k]);
            }
            if (gap.needsCommaBehind()) {
                out.put(',');
            }
            out.putPart(from, gap.to(), from.length());
        }
    }

    /** Cuts what PATHS lead to out of a VALUE. */
    private static final class Cutter {
        private final Spot spot;
        private final Order order;
        private final Gap gap = new Gap();
        private final int[] paths = new int[MAX_PATHS];
        private int total;
        private int steps;

        Cutter(Spot spot, Order order) {
            this.spot = spot;
            this.order = order;
        }

        int paths() {
            return Math.min(total, MAX_PATHS);
        }

        /** Takes in the PATHS; answers what is wrong with them before any is gone along. */
        int lookAt(Text ps) {
            total = 0;
            steps = 0;
            if (ps.kind(0) != ARRAY) {
                return TYPE;
            }
            int why = FINE;
            int p = ps.firstItem(0);
            while (p != NONE && total < TEXT_SIZE) {
                if (ps.kind(p) != ARRAY) {
                    return TYPE;
                }
                int more = ps.items(p);
                if (more > MAX_STEPS) {
                    why = RANGE;
                }
                if (total < MAX_PATHS) {
                    paths[total] = p;
                }
                total++;
                steps += more;
                p = ps.nextItem(p);
            }
            return why;
        }

        boolean areTooMany() {
            return total > MAX_PATHS || steps > MAX_STEPS;
        }

        void sortPaths(Text ps) {
            for (int i = 1; i < paths(); i++) {
                int moved = paths[i];
                int k = i;
                while (k > 0 && order.compare(ps, paths[k - 1], ps, moved, 0) > 0) {
                    paths[k] = paths[k - 1];
                    k--;
                }
                paths[k] = moved;
            }
        }

        /** Cuts what PATH n, in ORDER, leads to from the draft; answers what is wrong. */
        int cut(Text draft, Text ps, int n) {
            if (n < 0 || n >= paths()) {
                return FINE;
            }
            if (ps.firstItem(paths[n]) == NONE) {
                draft.clear();
                draft.putText("null");
                return FINE;
            }
            int why = spot.follow(draft, ps, paths[n]);
            if (why != FINE || spot.isNothing()) {
                return why;
            }
            if (spot.isPart() && spot.kind() == STRING) {
                return TYPE;
            }
            spot.span(gap);
            gap.closeUp(draft);
            draft.cut(gap.from(), gap.to());
            return FINE;
        }
    }

    /** Writes the ARRAY of all PATHS. */
    private static final class Lister {
        /** The names on the way, by their places; NONE for a step that is a NUMBER. */
        private final int[] names = new int[MAX_DEPTH];
        private final int[] places = new int[MAX_DEPTH];
        private Text text;
        private Text out;

        Lister(Text text) {
            this.text = text;
            this.out = text;
        }

        void list(Text whole, Text draft) {
            text = whole;
            out = draft;
            out.clear();
            out.put('[');
            listFrom(0, 0);
            out.put(']');
        }

        private void listFrom(int p, int depth) {
            putPath(depth);
            int kind = text.kind(p);
            if (kind != ARRAY && kind != OBJECT || depth >= MAX_DEPTH) {
                return;
            }
            int item = text.firstItem(p);
            for (int k = 0; k < TEXT_SIZE && item != NONE && !out.isOver(); k++) {
                names[depth] = kind == OBJECT ? item : NONE;
                places[depth] = k;
                out.put(',');
                listFrom(kind == OBJECT ? text.valueOf(item) : item, depth + 1);
                item = text.nextItem(item);
            }
        }

        private void putPath(int depth) {
            out.put('[');
            for (int k = 0; k < depth; k++) {
                if (k > 0) {
                    out.put(',');
                }
                if (names[k] == NONE) {
                    out.putPlace(places[k]);
                } else {
                    out.putPart(text, names[k], text.past(names[k]));
                }
            }
            out.put(']');
        }
    }
}
