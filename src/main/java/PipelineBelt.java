import java.util.Arrays;

/**
 * Two belts of documents, and stages that make belt 0 anew from what is on it.
 *
 * <p>All bytes (the tape, the belts, what is worked out on the way) lie in one
 * array that the constructor makes, and no call makes anything further: a value
 * is a REF, one number that holds its kind and the place of its bytes there.
 */
public final class PipelineBelt {
    private static final int DOCUMENT_MOST = 2000;
    private static final int BELT_MOST = 40000;
    private static final int DOCUMENTS_MOST = 200;
    private static final int DEPTH_MOST = 16;
    private static final int STEPS_MOST = 8;
    private static final int SORTS_MOST = 4;
    /** No document has more elements: each has a kind and the 0 behind its name. */
    private static final int PARTS_MOST = DOCUMENT_MOST / 2;
    /** Far above the depth of any document; a recursion that came so far would be stopped. */
    private static final int DEPTH_GUARD = 40;

    private static final int TAPE_AT = 0;
    private static final int BELTS_AT = TAPE_AT + DOCUMENT_MOST;
    private static final int KEYS_AT = BELTS_AT + 3 * BELT_MOST;
    private static final int VALUES_AT = KEYS_AT + BELT_MOST;
    private static final int STORE_BYTES = VALUES_AT + BELT_MOST;

    private static final int MISSING = 0;
    private static final int TEXT = 2;
    private static final int DOCUMENT = 3;
    private static final int ROW = 4;
    private static final int TRUTH = 8;
    private static final int NOTHING = 10;
    private static final int WHOLE_32 = 16;
    private static final int WHOLE_64 = 18;
    private static final int KIND_BITS = 5;
    private static final int KIND_MASK = 31;

    private static final int STAGE_FAULT = 1;
    private static final int VALUE_FAULT = 2;
    private static final int PATH_FAULT = 3;
    private static final int SUM_FAULT = 4;
    private static final int ROOM_FAULT = 5;

    private static final int PROJECT = 1;
    private static final int UNWIND = 2;
    private static final int GROUP = 3;
    private static final int SORT = 4;
    private static final int SKIP = 5;
    private static final int LIMIT = 6;
    private static final int LOOKUP = 7;

    private static final int COUNT = 1;
    private static final int SUM = 2;
    private static final int MIN = 3;
    private static final int MAX = 4;
    private static final int FIRST = 5;
    private static final int LAST = 6;
    private static final int PUSH = 7;
    private static final int ADD_TO_SET = 8;

    private final Store store;
    private final Checker checker;
    private final Belts belts;
    private final Shaper shaper;
    private final Grouper grouper;
    private final Sorter sorter;
    private final Finder finder;
    private int onTape;

    public PipelineBelt() {
        store = new Store();
        checker = new Checker(store);
        belts = new Belts(store);
        Path path = new Path(store);
        shaper = new Shaper(store, belts, path);
        grouper = new Grouper(store, belts, path);
        sorter = new Sorter(store, belts, path);
        finder = new Finder(store, belts, path);
    }

    public int feed(int a, int b, int c, int d, int e) {
        if (onTape + 20 > DOCUMENT_MOST) {
            return -1;
        }
        feedNumber(a);
        feedNumber(b);
        feedNumber(c);
        feedNumber(d);
        feedNumber(e);
        return onTape;
    }

    public int put(int belt, int n) {
        Belt to = belts.numbered(belt);
        if (to == null || n < 0 || n > onTape) {
            return -2;
        }
        onTape = 0;
        if (!checker.isDocument(n)) {
            return -1;
        }
        return belts.append(to, TAPE_AT, n) ? to.count : -3;
    }

    public int stage(int n) {
        if (n < 0 || n > onTape) {
            return -2;
        }
        onTape = 0;
        if (!checker.isDocument(n)) {
            return -1;
        }
        belts.beginAnew();
        int value = store.valueOf(TAPE_AT + 4);
        int fault;
        switch (stageOnTape()) {
            case PROJECT: fault = shaper.project(value); break;
            case UNWIND: fault = shaper.unwind(value); break;
            case GROUP: fault = grouper.group(value); break;
            case SORT: fault = sorter.sort(value); break;
            case SKIP: fault = leaveOut(value, true); break;
            case LIMIT: fault = leaveOut(value, false); break;
            case LOOKUP: fault = finder.lookUp(value); break;
            default: fault = STAGE_FAULT; break;
        }
        if (fault != 0) {
            return fault - 10;
        }
        belts.takeNew();
        return belts.front.count;
    }

    public int many(int belt, int what) {
        Belt of = belts.numbered(belt);
        if (of == null || what < 0 || what > 1) {
            return -1;
        }
        return what == 0 ? of.count : of.end() - of.base;
    }

    public int size(int belt, int k) {
        Belt of = belts.numbered(belt);
        if (of == null || k < 0 || k >= of.count) {
            return -1;
        }
        return of.start(k + 1) - of.start(k);
    }

    public int byteAt(int belt, int k, int i) {
        Belt of = belts.numbered(belt);
        if (of == null || k < 0 || k >= of.count) {
            return -1;
        }
        int from = of.start(k);
        if (i < 0 || i >= of.start(k + 1) - from) {
            return -1;
        }
        return store.at(from + i);
    }

    public int clear(int belt) {
        Belt of = belts.numbered(belt);
        if (of == null) {
            return -1;
        }
        int had = of.count;
        of.count = 0;
        return had;
    }

    public void swap() {
        belts.exchange();
    }

    private void feedNumber(int number) {
        for (int shift = 24; shift >= 0; shift -= 8) {
            store.write(TAPE_AT + onTape, number >> shift);
            onTape++;
        }
    }

    /** Which stage the document on the tape is; 0 when it is none. */
    private int stageOnTape() {
        if (store.countParts(Store.ref(DOCUMENT, TAPE_AT)) != 1) {
            return 0;
        }
        int from = TAPE_AT + 5;
        int to = Store.placeOf(store.valueOf(TAPE_AT + 4)) - 1;
        if (store.named(from, to, "$project")) {
            return PROJECT;
        }
        if (store.named(from, to, "$unwind")) {
            return UNWIND;
        }
        if (store.named(from, to, "$group")) {
            return GROUP;
        }
        if (store.named(from, to, "$sort")) {
            return SORT;
        }
        if (store.named(from, to, "$skip")) {
            return SKIP;
        }
        if (store.named(from, to, "$limit")) {
            return LIMIT;
        }
        return store.named(from, to, "$lookup") ? LOOKUP : 0;
    }

    /** $skip, where the first ones go, and $limit, where they alone stay. */
    private int leaveOut(int value, boolean firstOnes) {
        if (Store.classOf(value) != 2 || store.number(value) < 0) {
            return VALUE_FAULT;
        }
        int count = belts.front.count;
        int border = (int) Math.min(store.number(value), count);
        int from = firstOnes ? border : 0;
        int to = firstOnes ? count : border;
        for (int k = from; k < to; k++) {
            if (!belts.keep(k)) {
                return ROOM_FAULT;
            }
        }
        return 0;
    }

    /** The bytes, and what can be read of them: elements, values, ORDER. */
    private static final class Store {
        private final byte[] bytes = new byte[STORE_BYTES];

        static int ref(int kind, int place) {
            return (place << KIND_BITS) | kind;
        }

        static int kindOf(int ref) {
            return ref & KIND_MASK;
        }

        static int placeOf(int ref) {
            return ref >>> KIND_BITS;
        }

        static int classOf(int ref) {
            switch (ref & KIND_MASK) {
                case NOTHING: return 1;
                case WHOLE_32: return 2;
                case WHOLE_64: return 2;
                case TEXT: return 3;
                case DOCUMENT: return 4;
                case ROW: return 5;
                case TRUTH: return 6;
                default: return 0;
            }
        }

        int at(int place) {
            return place >= 0 && place < bytes.length ? bytes[place] & 255 : 0;
        }

        void write(int place, int value) {
            if (place >= 0 && place < bytes.length) {
                bytes[place] = (byte) value;
            }
        }

        int int32(int place) {
            if (place < 0 || place > bytes.length - 4) {
                return 0;
            }
            return (bytes[place] & 255) | (bytes[place + 1] & 255) << 8
                | (bytes[place + 2] & 255) << 16 | (bytes[place + 3] & 255) << 24;
        }

        /** The value of a number of either kind. */
        long number(int ref) {
            int place = placeOf(ref);
            long low = int32(place);
            if (kindOf(ref) != WHOLE_64) {
                return low;
            }
            return ((long) int32(place + 4) << 32) | (low & 0xFFFFFFFFL);
        }

        /** The value of the element that begins at a place; its name ends one byte ahead of it. */
        int valueOf(int part) {
            if (part < 0 || part >= bytes.length) {
                return MISSING;
            }
            for (int i = part + 1; i < bytes.length; i++) {
                if (bytes[i] == 0) {
                    return ((i + 1) << KIND_BITS) | (bytes[part] & KIND_MASK);
                }
            }
            return MISSING;
        }

        /** The place behind a value's bytes. */
        int endOf(int ref) {
            int place = ref >>> KIND_BITS;
            int kind = ref & KIND_MASK;
            if (kind == TEXT || kind == DOCUMENT || kind == ROW) {
                if (place > bytes.length - 4) {
                    return place;
                }
                int length = (bytes[place] & 255) | (bytes[place + 1] & 255) << 8
                    | (bytes[place + 2] & 255) << 16 | (bytes[place + 3] & 255) << 24;
                return kind == TEXT ? place + 4 + length : place + length;
            }
            return place + (kind == WHOLE_64 ? 8 : kind == WHOLE_32 ? 4 : kind == TRUTH ? 1 : 0);
        }

        /** How many elements or items a document or row has. */
        int countParts(int nest) {
            int last = endOf(nest) - 1;
            int part = placeOf(nest) + 4;
            int count = 0;
            for (int i = 0; i < PARTS_MOST && part < last; i++) {
                part = endOf(valueOf(part));
                count++;
            }
            return count;
        }

        /** The value of a document's element with the name that lies from from to to. */
        int find(int document, int from, int to) {
            int last = endOf(document) - 1;
            int part = placeOf(document) + 4;
            for (int i = 0; i < PARTS_MOST && part < last; i++) {
                int value = valueOf(part);
                int nameEnd = placeOf(value) - 1;
                if (nameEnd - part - 1 == to - from && compareBytes(part + 1, nameEnd, from, to) == 0) {
                    return value;
                }
                part = endOf(value);
            }
            return MISSING;
        }

        /** Item number k of a row. */
        int item(int row, int k) {
            int last = endOf(row) - 1;
            int part = placeOf(row) + 4;
            for (int i = 0; i < PARTS_MOST && part < last; i++) {
                int value = valueOf(part);
                if (i == k) {
                    return value;
                }
                part = endOf(value);
            }
            return MISSING;
        }

        boolean named(int from, int to, String name) {
            if (to - from != name.length()) {
                return false;
            }
            for (int i = 0; i < name.length(); i++) {
                if (at(from + i) != name.charAt(i)) {
                    return false;
                }
            }
            return true;
        }

        boolean isPlain(int from, int to) {
            if (from >= to || at(from) == '$') {
                return false;
            }
            for (int i = from; i < to; i++) {
                int octet = at(i);
                if (octet == '.' || octet == 0) {
                    return false;
                }
            }
            return true;
        }

        /** The number that digits without a 0 ahead tell; -1 for others, and for more than any row has. */
        int indexNamed(int from, int to) {
            int digits = to - from;
            if (digits < 1 || digits > 4 || digits > 1 && at(from) == '0') {
                return -1;
            }
            int index = 0;
            for (int i = from; i < to; i++) {
                int octet = at(i);
                if (octet < '0' || octet > '9') {
                    return -1;
                }
                index = index * 10 + octet - '0';
            }
            return index;
        }

        int compareBytes(int a, int aEnd, int b, int bEnd) {
            int length = Math.min(aEnd - a, bEnd - b);
            if (a < 0 || b < 0 || length > bytes.length - a || length > bytes.length - b) {
                return 0;
            }
            for (int i = 0; i < length; i++) {
                int difference = (bytes[a + i] & 255) - (bytes[b + i] & 255);
                if (difference != 0) {
                    return difference < 0 ? -1 : 1;
                }
            }
            return Integer.compare(aEnd - a, bEnd - b);
        }

        /** ORDER: -1, 0 or 1. */
        int compare(int a, int b, int depth) {
            int kinds = Integer.compare(classOf(a), classOf(b));
            if (kinds != 0 || depth > DEPTH_GUARD) {
                return kinds;
            }
            switch (kindOf(a)) {
                case WHOLE_32: return Long.compare(number(a), number(b));
                case WHOLE_64: return Long.compare(number(a), number(b));
                case TRUTH: return Integer.compare(at(placeOf(a)), at(placeOf(b)));
                case TEXT:
                    return compareBytes(placeOf(a) + 4, endOf(a) - 1, placeOf(b) + 4, endOf(b) - 1);
                case DOCUMENT: return compareParts(a, b, depth);
                case ROW: return compareParts(a, b, depth);
                default: return 0;
            }
        }

        private int compareParts(int a, int b, int depth) {
            boolean namesCount = kindOf(a) == DOCUMENT;
            int aLast = endOf(a) - 1;
            int bLast = endOf(b) - 1;
            int p = placeOf(a) + 4;
            int q = placeOf(b) + 4;
            for (int i = 0; i < PARTS_MOST && p < aLast && q < bLast; i++) {
                int x = valueOf(p);
                int y = valueOf(q);
                int order = Integer.compare(classOf(x), classOf(y));
                if (order == 0 && namesCount) {
                    order = compareBytes(p + 1, placeOf(x) - 1, q + 1, placeOf(y) - 1);
                }
                if (order == 0) {
                    order = compare(x, y, depth + 1);
                }
                if (order != 0) {
                    return order;
                }
                p = endOf(x);
                q = endOf(y);
            }
            return Integer.compare(p < aLast ? 1 : 0, q < bLast ? 1 : 0);
        }

        /** A number that is one for values that are the SAME. */
        int hash(int ref, int depth) {
            int place = placeOf(ref);
            switch (kindOf(ref)) {
                case WHOLE_32: return hashNumber(number(ref));
                case WHOLE_64: return hashNumber(number(ref));
                case TRUTH: return 8 + at(place);
                case TEXT: return hashBytes(place + 4, endOf(ref) - 1);
                case DOCUMENT: return depth > DEPTH_GUARD ? 0 : hashParts(ref, depth);
                case ROW: return depth > DEPTH_GUARD ? 0 : hashParts(ref, depth);
                default: return classOf(ref);
            }
        }

        private int hashParts(int ref, int depth) {
            int last = endOf(ref) - 1;
            int part = placeOf(ref) + 4;
            int mixed = classOf(ref);
            for (int i = 0; i < PARTS_MOST && part < last; i++) {
                int value = valueOf(part);
                if (kindOf(ref) == DOCUMENT) {
                    mixed = mixed * 31 + hashBytes(part + 1, placeOf(value) - 1);
                }
                mixed = mixed * 31 + hash(value, depth + 1);
                part = endOf(value);
            }
            return mixed;
        }

        private int hashBytes(int from, int to) {
            int mixed = 3;
            for (int i = Math.max(from, 0); i < to && i < bytes.length; i++) {
                mixed = mixed * 31 + bytes[i];
            }
            return mixed;
        }

        private static int hashNumber(long number) {
            int mixed = (int) (number ^ (number >>> 32)) * 0x2545F491;
            return mixed ^ (mixed >>> 15);
        }

        boolean isTooDeep(int nest, int depth) {
            if (depth > DEPTH_MOST) {
                return true;
            }
            int last = endOf(nest) - 1;
            int part = placeOf(nest) + 4;
            for (int i = 0; i < PARTS_MOST && part < last; i++) {
                int value = valueOf(part);
                boolean nested = kindOf(value) == DOCUMENT || kindOf(value) == ROW;
                if (nested && isTooDeep(value, depth + 1)) {
                    return true;
                }
                part = endOf(value);
            }
            return false;
        }
    }

    /** Tells whether bytes on the tape are a document. */
    private static final class Checker {
        private final Store store;

        Checker(Store store) {
            this.store = store;
        }

        boolean isDocument(int n) {
            return isNest(TAPE_AT, TAPE_AT + n, false, 1);
        }

        /** Whether the bytes are a document (or a row), no byte more or less. */
        private boolean isNest(int from, int to, boolean row, int depth) {
            if (depth > DEPTH_MOST || to - from < 5 || store.int32(from) != to - from) {
                return false;
            }
            int last = to - 1;
            int part = from + 4;
            for (int i = 0; i < PARTS_MOST && part < last; i++) {
                int nameEnd = endOfName(part + 1, last);
                if (nameEnd < 0) {
                    return false;
                }
                if (row ? store.indexNamed(part + 1, nameEnd) != i : !isNewName(from + 4, part, nameEnd)) {
                    return false;
                }
                part = endOfValue(store.at(part), nameEnd + 1, last, depth);
                if (part < 0) {
                    return false;
                }
            }
            return part == last && store.at(last) == 0;
        }

        private int endOfName(int from, int last) {
            for (int i = from; i < last; i++) {
                if (store.at(i) == 0) {
                    return i;
                }
            }
            return -1;
        }

        /** Whether an element's name is right UTF-8 and no element ahead of it has it. */
        private boolean isNewName(int first, int part, int nameEnd) {
            if (!isUtf8(part + 1, nameEnd)) {
                return false;
            }
            int other = first;
            for (int i = 0; i < PARTS_MOST && other < part; i++) {
                int value = store.valueOf(other);
                if (store.compareBytes(other + 1, Store.placeOf(value) - 1, part + 1, nameEnd) == 0) {
                    return false;
                }
                other = store.endOf(value);
            }
            return true;
        }

        /** The place behind the value; -1 when there is no right one before last. */
        private int endOfValue(int kind, int place, int last, int depth) {
            switch (kind) {
                case WHOLE_32: return last - place >= 4 ? place + 4 : -1;
                case WHOLE_64: return last - place >= 8 ? place + 8 : -1;
                case TRUTH: return last - place >= 1 && store.at(place) <= 1 ? place + 1 : -1;
                case NOTHING: return place;
                case TEXT: return endOfText(place, last);
                case DOCUMENT: return endOfNest(false, place, last, depth);
                case ROW: return endOfNest(true, place, last, depth);
                default: return -1;
            }
        }

        private int endOfText(int place, int last) {
            int from = place + 4;
            if (last < from) {
                return -1;
            }
            int length = store.int32(place);
            if (length < 1 || length > last - from) {
                return -1;
            }
            int end = from + length;
            return store.at(end - 1) == 0 && isUtf8(from, end - 1) ? end : -1;
        }

        private int endOfNest(boolean row, int place, int last, int depth) {
            if (last - place < 5) {
                return -1;
            }
            int length = store.int32(place);
            if (length < 5 || length > last - place) {
                return -1;
            }
            return isNest(place, place + length, row, depth + 1) ? place + length : -1;
        }

        private boolean isUtf8(int from, int to) {
            int next = from;
            for (int i = from; i < to && next < to; i++) {
                int length = lengthOfCharacter(next, to);
                if (length == 0) {
                    return false;
                }
                next += length;
            }
            return next == to;
        }

        /** How many bytes the character has; 0 when it is none. */
        private int lengthOfCharacter(int place, int to) {
            int head = store.at(place);
            if (head < 0x80) {
                return 1;
            }
            if (head < 0xC2 || head > 0xF4) {
                return 0;
            }
            int length = head < 0xE0 ? 2 : head < 0xF0 ? 3 : 4;
            if (length > to - place) {
                return 0;
            }
            for (int i = 1; i < length; i++) {
                if ((store.at(place + i) & 0xC0) != 0x80) {
                    return 0;
                }
            }
            int second = store.at(place + 1);
            boolean longer = head == 0xE0 && second < 0xA0 || head == 0xF0 && second < 0x90;
            boolean outside = head == 0xED && second > 0x9F || head == 0xF4 && second > 0x8F;
            return longer || outside ? 0 : length;
        }
    }

    /** Writes documents, rows and values into the store, up to a limit. */
    private static final class Writer {
        private final Store store;
        private int place;
        private int limit;
        private boolean full;

        Writer(Store store) {
            this.store = store;
        }

        void aim(int from, int most) {
            place = from;
            limit = Math.min(from + most, STORE_BYTES);
            full = from < 0;
        }

        void octet(int value) {
            if (full || place >= limit) {
                full = true;
                return;
            }
            store.bytes[place] = (byte) value;
            place++;
        }

        void copy(int from, int to) {
            int length = to - from;
            if (full || from < 0 || length < 0 || to > STORE_BYTES || length > limit - place) {
                full = true;
                return;
            }
            System.arraycopy(store.bytes, from, store.bytes, place, length);
            place += length;
        }

        /** Begins a document or row, whose size is told when it is closed. */
        int open() {
            int start = place;
            for (int i = 0; i < 4; i++) {
                octet(0);
            }
            return start;
        }

        void close(int start) {
            octet(0);
            resize(start, place - start);
        }

        void resize(int start, int length) {
            if (full || start < 0 || start > limit - 4) {
                return;
            }
            for (int i = 0; i < 4; i++) {
                store.bytes[start + i] = (byte) (length >> 8 * i);
            }
        }

        /** The kind and the name of an element, whose value is to come. */
        void name(int kind, int from, int to) {
            octet(kind);
            copy(from, to);
            octet(0);
        }

        /** The kind and the number of an item, whose value is to come. */
        void index(int kind, int number) {
            octet(kind);
            for (int unit = 1000; unit > 0; unit /= 10) {
                if (number >= unit || unit == 1) {
                    octet('0' + number / unit % 10);
                }
            }
            octet(0);
        }

        void whole64(long value) {
            for (int shift = 0; shift < 64; shift += 8) {
                octet((int) (value >> shift));
            }
        }
    }

    /** Documents in their order, side by side in the store. */
    private static final class Belt {
        private final int base;
        private final int[] starts = new int[DOCUMENTS_MOST + 1];
        private int count;

        Belt(int base) {
            this.base = base;
            starts[0] = base;
        }

        /** Where document k begins, and where the one ahead of it ends. */
        int start(int k) {
            return k >= 0 && k < starts.length ? starts[k] : base;
        }

        int end() {
            return start(count);
        }

        /** Counts a document in that has been written behind the last one. */
        boolean add(int length) {
            int end = end() + length;
            if (count < 0 || count >= DOCUMENTS_MOST || end - base > BELT_MOST) {
                return false;
            }
            count++;
            starts[count] = end;
            return true;
        }
    }

    /** Both belts, and the one on which a stage makes belt 0 anew. */
    private static final class Belts {
        private final Store store;
        private final Writer writer;
        private Belt front;
        private Belt back;
        private Belt anew;

        Belts(Store store) {
            this.store = store;
            writer = new Writer(store);
            front = new Belt(BELTS_AT);
            back = new Belt(BELTS_AT + BELT_MOST);
            anew = new Belt(BELTS_AT + 2 * BELT_MOST);
        }

        Belt numbered(int number) {
            return number == 0 ? front : number == 1 ? back : null;
        }

        void exchange() {
            Belt other = front;
            front = back;
            back = other;
        }

        void beginAnew() {
            anew.count = 0;
        }

        void takeNew() {
            Belt other = front;
            front = anew;
            anew = other;
        }

        boolean append(Belt belt, int from, int length) {
            writer.aim(belt.end(), belt.base + BELT_MOST - belt.end());
            writer.copy(from, from + length);
            return !writer.full && belt.add(length);
        }

        /** Document k of belt 0 as it is. */
        boolean keep(int k) {
            return append(anew, front.start(k), front.start(k + 1) - front.start(k));
        }

        /** The writer, where the next new document begins. */
        Writer next() {
            int from = anew.end();
            writer.aim(from, Math.min(DOCUMENT_MOST, anew.base + BELT_MOST - from));
            return writer;
        }

        /** Whether the document that was written can be one of the new ones. */
        boolean accept() {
            int from = anew.end();
            return !writer.full && !store.isTooDeep(Store.ref(DOCUMENT, from), 1) && anew.add(writer.place - from);
        }

        /** Document k of belt 0 as a value. */
        int document(int k) {
            return Store.ref(DOCUMENT, front.start(k));
        }
    }

    /** A path, or an expression: a path or a value that is itself. */
    private static final class Path {
        private final Store store;
        private final Writer writer;
        private final int[] starts = new int[STEPS_MOST];
        private final int[] ends = new int[STEPS_MOST];
        /** The number that a step of digits tells, or -1. */
        private final int[] indexes = new int[STEPS_MOST];
        /** The places of the documents that throughDocuments went through, one for each step. */
        private final int[] holders = new int[STEPS_MOST];
        private int count;
        private boolean fixed;
        private int own;
        /** The leaves that were found last; seen tells by the place in the document which ones are among them. */
        private final int[] leaves = new int[PARTS_MOST + 1];
        private final int[] seen = new int[DOCUMENT_MOST];
        private int leafCount;
        private int search;
        private int base;
        private boolean missed;

        Path(Store store) {
            this.store = store;
            writer = new Writer(store);
        }

        /** Whether the bytes are a path, which this one is then. */
        boolean read(int from, int to) {
            fixed = false;
            count = 0;
            int begin = from;
            for (int i = from; i <= to; i++) {
                int octet = i < to ? store.at(i) : '.';
                if (octet == 0) {
                    return false;
                }
                if (octet == '.') {
                    if (i == begin || store.at(begin) == '$' || count >= STEPS_MOST) {
                        return false;
                    }
                    starts[count] = begin;
                    ends[count] = i;
                    indexes[count] = store.indexNamed(begin, i);
                    count++;
                    begin = i + 1;
                }
            }
            return count > 0;
        }

        boolean readText(int text) {
            return read(Store.placeOf(text) + 4, store.endOf(text) - 1);
        }

        boolean readBehindDollar(int text) {
            return read(Store.placeOf(text) + 5, store.endOf(text) - 1);
        }

        /** False when it is a text with a $ ahead and no path behind it. */
        boolean readExpression(int value) {
            if (startsWithDollar(value)) {
                return read(Store.placeOf(value) + 5, store.endOf(value) - 1);
            }
            fixed = true;
            own = value;
            return true;
        }

        boolean startsWithDollar(int value) {
            return Store.kindOf(value) == TEXT && store.at(Store.placeOf(value) + 4) == '$';
        }

        int lengthOfLastName() {
            return count > 0 && count <= STEPS_MOST ? ends[count - 1] - starts[count - 1] : 0;
        }

        /** The value behind the last step when all that the path goes through are documents. */
        int throughDocuments(int document) {
            int now = document;
            for (int i = 0; i < count && i < STEPS_MOST; i++) {
                if (Store.kindOf(now) != DOCUMENT) {
                    return MISSING;
                }
                holders[i] = Store.placeOf(now);
                now = store.find(now, starts[i], ends[i]);
            }
            return now;
        }

        /** Rows that VALUES need to have made are written from this place on, one behind the other. */
        void makeRowsAt(int place) {
            writer.aim(place, BELT_MOST);
        }

        /** The VALUE at a value, from a step on. */
        int value(int from, int step) {
            if (fixed) {
                return own;
            }
            int now = from;
            for (int i = Math.max(step, 0); i < count && i < STEPS_MOST; i++) {
                int kind = Store.kindOf(now);
                if (kind == ROW) {
                    return rowOfValues(now, i);
                }
                if (kind != DOCUMENT) {
                    return MISSING;
                }
                now = store.find(now, starts[i], ends[i]);
            }
            return now;
        }

        /** It goes no deeper than there are steps: between two rows there is a document, which takes one. */
        private int rowOfValues(int row, int step) {
            int start = writer.open();
            int last = store.endOf(row) - 1;
            int part = Store.placeOf(row) + 4;
            int items = 0;
            for (int i = 0; i < PARTS_MOST && part < last; i++) {
                int item = store.valueOf(part);
                if (Store.kindOf(item) == DOCUMENT) {
                    int head = writer.place;
                    writer.index(ROW, items);
                    int behind = writer.place;
                    int value = value(item, step);
                    if (value == MISSING) {
                        writer.place = head;
                    } else {
                        items++;
                        // A row that had to be made stands behind its head already.
                        if (Store.placeOf(value) != behind) {
                            store.write(head, Store.kindOf(value));
                            writer.copy(Store.placeOf(value), store.endOf(value));
                        }
                    }
                }
                part = store.endOf(item);
            }
            writer.close(start);
            return Store.ref(ROW, start);
        }

        /** Finds the leaves WITH ITEMS at a document; one that is met again is not told again. */
        void findLeaves(int document) {
            leafCount = 0;
            missed = false;
            search++;
            base = Store.placeOf(document);
            goOn(document, 0, 1);
        }

        private void goOn(int value, int step, int depth) {
            int kind = Store.kindOf(value);
            if (step < 0 || step >= count || step >= STEPS_MOST) {
                meet(value);
                if (kind == ROW) {
                    meetItems(value);
                }
            } else if (kind == DOCUMENT && depth < DEPTH_GUARD) {
                int next = store.find(value, starts[step], ends[step]);
                if (next == MISSING) {
                    meet(MISSING);
                } else {
                    goOn(next, step + 1, depth + 1);
                }
            } else if (kind == ROW && depth < DEPTH_GUARD) {
                int next = indexes[step] < 0 ? MISSING : store.item(value, indexes[step]);
                if (next != MISSING) {
                    goOn(next, step + 1, depth + 1);
                }
                goOnAtItems(value, step, depth);
            } else {
                meet(MISSING);
            }
        }

        private void goOnAtItems(int row, int step, int depth) {
            int last = store.endOf(row) - 1;
            int part = Store.placeOf(row) + 4;
            for (int i = 0; i < PARTS_MOST && part < last; i++) {
                int item = store.valueOf(part);
                if (Store.kindOf(item) == DOCUMENT) {
                    goOn(item, step, depth + 1);
                }
                part = store.endOf(item);
            }
        }

        private void meetItems(int row) {
            int last = store.endOf(row) - 1;
            int part = Store.placeOf(row) + 4;
            for (int i = 0; i < PARTS_MOST && part < last; i++) {
                int item = store.valueOf(part);
                meet(item);
                part = store.endOf(item);
            }
        }

        private void meet(int leaf) {
            int offset = Store.placeOf(leaf) - base;
            boolean known = missed;
            if (leaf == MISSING) {
                missed = true;
            } else if (offset >= 0 && offset < DOCUMENT_MOST) {
                known = seen[offset] == search;
                seen[offset] = search;
            }
            if (!known && leafCount < leaves.length) {
                leaves[leafCount] = leaf;
                leafCount++;
            }
        }

        int leaf(int i) {
            return i >= 0 && i < leafCount && i < leaves.length ? leaves[i] : MISSING;
        }
    }

    /** The stages that look at one document at a time: $project and $unwind. */
    private static final class Shaper {
        private final Store store;
        private final Belts belts;
        private final Path path;

        Shaper(Store store, Belts belts, Path path) {
            this.store = store;
            this.belts = belts;
            this.path = path;
        }

        int project(int plan) {
            int fault = faultOfProject(plan);
            for (int k = 0; fault == 0 && k < belts.front.count; k++) {
                writeProjected(plan, belts.document(k));
                fault = belts.accept() ? 0 : ROOM_FAULT;
            }
            return fault;
        }

        private int faultOfProject(int plan) {
            if (Store.kindOf(plan) != DOCUMENT || store.countParts(plan) < 1) {
                return VALUE_FAULT;
            }
            int last = store.endOf(plan) - 1;
            int part = Store.placeOf(plan) + 4;
            for (int i = 0; i < PARTS_MOST && part < last; i++) {
                int value = store.valueOf(part);
                if (!store.isPlain(part + 1, Store.placeOf(value) - 1)) {
                    return VALUE_FAULT;
                }
                if (!path.readExpression(value)) {
                    return PATH_FAULT;
                }
                part = store.endOf(value);
            }
            return 0;
        }

        private void writeProjected(int plan, int document) {
            Writer writer = belts.next();
            int start = writer.open();
            int last = store.endOf(plan) - 1;
            int part = Store.placeOf(plan) + 4;
            for (int i = 0; i < PARTS_MOST && part < last; i++) {
                int asked = store.valueOf(part);
                int nameEnd = Store.placeOf(asked) - 1;
                int value = projected(asked, part + 1, nameEnd, document);
                if (value != MISSING) {
                    writer.name(Store.kindOf(value), part + 1, nameEnd);
                    writer.copy(Store.placeOf(value), store.endOf(value));
                }
                part = store.endOf(asked);
            }
            writer.close(start);
        }

        private int projected(int asked, int from, int to, int document) {
            if (Store.kindOf(asked) == TRUTH && store.at(Store.placeOf(asked)) == 1) {
                return store.find(document, from, to);
            }
            path.makeRowsAt(VALUES_AT);
            return path.readExpression(asked) ? path.value(document, 0) : MISSING;
        }

        int unwind(int plan) {
            if (!path.startsWithDollar(plan)) {
                return VALUE_FAULT;
            }
            if (!path.readBehindDollar(plan)) {
                return PATH_FAULT;
            }
            for (int k = 0; k < belts.front.count; k++) {
                int value = path.throughDocuments(belts.document(k));
                int kind = Store.kindOf(value);
                boolean done = true;
                if (kind == ROW) {
                    done = unwindRow(k, value);
                } else if (kind != MISSING && kind != NOTHING) {
                    done = belts.keep(k);
                }
                if (!done) {
                    return ROOM_FAULT;
                }
            }
            return 0;
        }

        private boolean unwindRow(int k, int row) {
            int last = store.endOf(row) - 1;
            int part = Store.placeOf(row) + 4;
            for (int i = 0; i < PARTS_MOST && part < last; i++) {
                int item = store.valueOf(part);
                writeUnwound(k, row, item);
                if (!belts.accept()) {
                    return false;
                }
                part = store.endOf(item);
            }
            return true;
        }

        /** The document's bytes with an item in place of the row, and the sizes of what it lies in made less. */
        private void writeUnwound(int k, int row, int item) {
            Writer writer = belts.next();
            int from = belts.front.start(k);
            int to = writer.place;
            int element = Store.placeOf(row) - path.lengthOfLastName() - 2;
            int less = store.endOf(row) - Store.placeOf(row) - store.endOf(item) + Store.placeOf(item);
            writer.copy(from, element);
            writer.octet(Store.kindOf(item));
            writer.copy(element + 1, Store.placeOf(row));
            writer.copy(Store.placeOf(item), store.endOf(item));
            writer.copy(store.endOf(row), belts.front.start(k + 1));
            for (int i = 0; i < path.count && i < STEPS_MOST; i++) {
                int holder = path.holders[i];
                writer.resize(to + holder - from, store.int32(holder) - less);
            }
        }
    }

    /** $group. */
    private static final class Grouper {
        private final Store store;
        private final Belts belts;
        private final Path path;
        private final int[] keys = new int[DOCUMENTS_MOST];
        private final int[] hashes = new int[DOCUMENTS_MOST];
        /** The first and the last document of each group. */
        private final int[] firsts = new int[DOCUMENTS_MOST];
        private final int[] lasts = new int[DOCUMENTS_MOST];
        /** The next document of a document's group, or -1. */
        private final int[] nexts = new int[DOCUMENTS_MOST];
        private int groups;
        /** What an expression's value is at each document of a group, MISSING too. */
        private final int[] values = new int[DOCUMENTS_MOST];
        private int held;
        private long sum;

        Grouper(Store store, Belts belts, Path path) {
            this.store = store;
            this.belts = belts;
            this.path = path;
        }

        int group(int plan) {
            int fault = faultOf(plan);
            if (fault != 0) {
                return fault;
            }
            gather(store.valueOf(Store.placeOf(plan) + 4));
            // A sum at fault goes ahead of a lack of room in any group.
            if (!sumsHold(plan)) {
                return SUM_FAULT;
            }
            for (int g = 0; g < groups; g++) {
                writeGroup(plan, g);
                if (!belts.accept()) {
                    return ROOM_FAULT;
                }
            }
            return 0;
        }

        private int faultOf(int plan) {
            if (Store.kindOf(plan) != DOCUMENT || store.countParts(plan) < 1) {
                return VALUE_FAULT;
            }
            int last = store.endOf(plan) - 1;
            int part = Store.placeOf(plan) + 4;
            for (int i = 0; i < PARTS_MOST && part < last; i++) {
                int value = store.valueOf(part);
                int nameEnd = Store.placeOf(value) - 1;
                int fault = i == 0 ? faultOfKey(part + 1, nameEnd, value) : faultOfPart(part + 1, nameEnd, value);
                if (fault != 0) {
                    return fault;
                }
                part = store.endOf(value);
            }
            return 0;
        }

        private int faultOfKey(int from, int to, int value) {
            if (!store.named(from, to, "by")) {
                return VALUE_FAULT;
            }
            return path.readExpression(value) ? 0 : PATH_FAULT;
        }

        private int faultOfPart(int from, int to, int value) {
            if (!store.isPlain(from, to) || Store.kindOf(value) != DOCUMENT || store.countParts(value) != 1) {
                return VALUE_FAULT;
            }
            int told = toldBy(value);
            int work = workOf(value);
            if (work == 0 || work == COUNT && Store.kindOf(told) != NOTHING) {
                return VALUE_FAULT;
            }
            return work == COUNT || path.readExpression(told) ? 0 : PATH_FAULT;
        }

        /** What is to be worked out by a document with one element; 0 when its name is none of them. */
        private int workOf(int value) {
            int from = Store.placeOf(value) + 5;
            int to = Store.placeOf(store.valueOf(from - 1)) - 1;
            if (store.named(from, to, "$count")) {
                return COUNT;
            }
            if (store.named(from, to, "$sum")) {
                return SUM;
            }
            if (store.named(from, to, "$min")) {
                return MIN;
            }
            if (store.named(from, to, "$max")) {
                return MAX;
            }
            if (store.named(from, to, "$first")) {
                return FIRST;
            }
            if (store.named(from, to, "$last")) {
                return LAST;
            }
            if (store.named(from, to, "$push")) {
                return PUSH;
            }
            return store.named(from, to, "$addToSet") ? ADD_TO_SET : 0;
        }

        private void gather(int by) {
            groups = 0;
            path.makeRowsAt(KEYS_AT);
            if (!path.readExpression(by)) {
                return;
            }
            for (int k = 0; k < belts.front.count && k < DOCUMENTS_MOST; k++) {
                int key = path.value(belts.document(k), 0);
                nexts[k] = -1;
                gatherOne(k, key == MISSING ? NOTHING : key);
            }
        }

        private void gatherOne(int k, int key) {
            int hash = store.hash(key, 0);
            for (int g = 0; g < groups; g++) {
                if (hashes[g] == hash && store.compare(keys[g], key, 0) == 0) {
                    join(k, g);
                    return;
                }
            }
            if (groups < DOCUMENTS_MOST) {
                keys[groups] = key;
                hashes[groups] = hash;
                firsts[groups] = k;
                lasts[groups] = k;
                groups++;
            }
        }

        private void join(int k, int g) {
            int last = lasts[g];
            if (last >= 0 && last < DOCUMENTS_MOST) {
                nexts[last] = k;
            }
            lasts[g] = k;
        }

        private boolean sumsHold(int plan) {
            int last = store.endOf(plan) - 1;
            int part = Store.placeOf(plan) + 4;
            for (int i = 0; i < PARTS_MOST && part < last; i++) {
                int value = store.valueOf(part);
                boolean summed = i > 0 && workOf(value) == SUM;
                for (int g = 0; summed && g < groups; g++) {
                    collect(value, g);
                    if (!addUp()) {
                        return false;
                    }
                }
                part = store.endOf(value);
            }
            return true;
        }

        private int toldBy(int value) {
            return store.valueOf(Store.placeOf(value) + 4);
        }

        private void collect(int value, int g) {
            held = 0;
            path.makeRowsAt(VALUES_AT);
            if (!path.readExpression(toldBy(value))) {
                return;
            }
            int k = firsts[g];
            for (int i = 0; i < DOCUMENTS_MOST && k >= 0 && k < DOCUMENTS_MOST; i++) {
                values[i] = path.value(belts.document(k), 0);
                held++;
                k = nexts[k];
            }
        }

        /** Adds in two halves, so that only the whole sum has to be a number of 64 bits. */
        private boolean addUp() {
            long high = 0;
            long low = 0;
            for (int i = 0; i < held; i++) {
                if (Store.classOf(values[i]) == 2) {
                    long number = store.number(values[i]);
                    high += number >> 32;
                    low += number & 0xFFFFFFFFL;
                }
            }
            high += low >> 32;
            sum = (high << 32) | (low & 0xFFFFFFFFL);
            return sum >> 32 == high;
        }

        private void writeGroup(int plan, int g) {
            Writer writer = belts.next();
            int start = writer.open();
            int last = store.endOf(plan) - 1;
            int part = Store.placeOf(plan) + 4;
            for (int i = 0; i < PARTS_MOST && part < last; i++) {
                int value = store.valueOf(part);
                int nameEnd = Store.placeOf(value) - 1;
                if (i == 0) {
                    writer.name(Store.kindOf(keys[g]), part + 1, nameEnd);
                    writer.copy(Store.placeOf(keys[g]), store.endOf(keys[g]));
                } else {
                    collect(value, g);
                    writePart(writer, part + 1, nameEnd, workOf(value));
                }
                part = store.endOf(value);
            }
            writer.close(start);
        }

        private void writePart(Writer writer, int from, int to, int work) {
            if (work == COUNT) {
                writer.name(WHOLE_64, from, to);
                writer.whole64(held);
            } else if (work == SUM) {
                addUp();
                writer.name(WHOLE_64, from, to);
                writer.whole64(sum);
            } else if (work == PUSH || work == ADD_TO_SET) {
                if (work == ADD_TO_SET) {
                    dropTwins();
                }
                writer.name(ROW, from, to);
                writeRow(writer);
            } else {
                int best = work == MIN ? least(1) : work == MAX ? least(-1) : outermost(work == LAST);
                int chosen = best == MISSING ? NOTHING : best;
                writer.name(Store.kindOf(chosen), from, to);
                writer.copy(Store.placeOf(chosen), store.endOf(chosen));
            }
        }

        private int outermost(boolean last) {
            int i = last ? held - 1 : 0;
            return i >= 0 && i < held && i < DOCUMENTS_MOST ? values[i] : MISSING;
        }

        /** The least value, or the greatest with the sign -1; the first one of the SAME. */
        private int least(int sign) {
            int best = MISSING;
            for (int i = 0; i < held; i++) {
                int value = values[i];
                if (value != MISSING && (best == MISSING || store.compare(value, best, 0) * sign < 0)) {
                    best = value;
                }
            }
            return best;
        }

        private void dropTwins() {
            for (int i = 1; i < held; i++) {
                for (int j = 0; j < i && values[i] != MISSING; j++) {
                    if (store.compare(values[j], values[i], 0) == 0) {
                        values[i] = MISSING;
                    }
                }
            }
        }

        private void writeRow(Writer writer) {
            int start = writer.open();
            int items = 0;
            for (int i = 0; i < held; i++) {
                if (values[i] != MISSING) {
                    writer.index(Store.kindOf(values[i]), items);
                    writer.copy(Store.placeOf(values[i]), store.endOf(values[i]));
                    items++;
                }
            }
            writer.close(start);
        }
    }

    /** $sort. */
    private static final class Sorter {
        private final Store store;
        private final Belts belts;
        private final Path path;
        /** For each element of the stage, for each document, the leaf by which it is sorted. */
        private final int[][] keys = new int[SORTS_MOST][DOCUMENTS_MOST];
        private final int[] signs = new int[SORTS_MOST];
        private final int[] order = new int[DOCUMENTS_MOST];
        private int sorts;

        Sorter(Store store, Belts belts, Path path) {
            this.store = store;
            this.belts = belts;
            this.path = path;
        }

        int sort(int plan) {
            if (Store.kindOf(plan) != DOCUMENT) {
                return VALUE_FAULT;
            }
            sorts = store.countParts(plan);
            if (sorts < 1 || sorts > SORTS_MOST) {
                return VALUE_FAULT;
            }
            int part = Store.placeOf(plan) + 4;
            for (int i = 0; i < sorts; i++) {
                int value = store.valueOf(part);
                if (!isSign(value)) {
                    return VALUE_FAULT;
                }
                if (!path.read(part + 1, Store.placeOf(value) - 1)) {
                    return PATH_FAULT;
                }
                signs[i] = (int) store.number(value);
                findKeys(i);
                part = store.endOf(value);
            }
            return keepInOrder();
        }

        private boolean isSign(int value) {
            return Store.classOf(value) == 2 && (store.number(value) == 1 || store.number(value) == -1);
        }

        private void findKeys(int i) {
            for (int k = 0; k < belts.front.count && k < DOCUMENTS_MOST; k++) {
                path.findLeaves(belts.document(k));
                keys[i][k] = leastLeaf(signs[i]);
            }
        }

        /** The least leaf, or the greatest with the sign -1. */
        private int leastLeaf(int sign) {
            int best = path.leaf(0);
            for (int i = 1; i < path.leafCount; i++) {
                int leaf = path.leaf(i);
                if (store.compare(leaf, best, 0) * sign < 0) {
                    best = leaf;
                }
            }
            return best;
        }

        private int keepInOrder() {
            int count = Math.min(belts.front.count, DOCUMENTS_MOST);
            for (int k = 0; k < count; k++) {
                int place = Math.min(placeFor(k), k);
                for (int i = k; i > place; i--) {
                    order[i] = order[i - 1];
                }
                order[place] = k;
            }
            for (int i = 0; i < count; i++) {
                if (!belts.keep(order[i])) {
                    return ROOM_FAULT;
                }
            }
            return 0;
        }

        /** Where document k comes among those ahead of it, which are in order: behind those that are the SAME. */
        private int placeFor(int k) {
            int low = 0;
            int high = k;
            for (int i = 0; i <= DOCUMENTS_MOST && low < high; i++) {
                int middle = (low + high) / 2;
                if (compareDocuments(order[middle], k) > 0) {
                    high = middle;
                } else {
                    low = middle + 1;
                }
            }
            return low;
        }

        private int compareDocuments(int a, int b) {
            if (a < 0 || a >= DOCUMENTS_MOST || b < 0 || b >= DOCUMENTS_MOST) {
                return 0;
            }
            for (int i = 0; i < sorts; i++) {
                int difference = store.compare(keys[i][a], keys[i][b], 0);
                if (difference != 0) {
                    return difference * signs[i];
                }
            }
            return 0;
        }
    }

    /** $lookup: the leaves of belt 1 in chains by their hash, so that each leaf of belt 0 finds its own. */
    private static final class Finder {
        /** A leaf has a kind, a name of one byte at least, and a 0; and each document may have NOTHING instead. */
        private static final int LEAVES_MOST = BELT_MOST / 3 + DOCUMENTS_MOST;
        private static final int CHAINS = 1024;

        private final Store store;
        private final Belts belts;
        private final Path path;
        /** The newest leaf of each chain, and the next older one of each leaf, or -1. */
        private final int[] chains = new int[CHAINS];
        private final int[] nexts = new int[LEAVES_MOST];
        private final int[] leaves = new int[LEAVES_MOST];
        private final int[] hashes = new int[LEAVES_MOST];
        private final int[] documents = new int[LEAVES_MOST];
        private int count;
        /** For each document of belt 1 the last one of belt 0 to which it belongs, or -1. */
        private final int[] owners = new int[DOCUMENTS_MOST];

        Finder(Store store, Belts belts, Path path) {
            this.store = store;
            this.belts = belts;
            this.path = path;
        }

        int lookUp(int plan) {
            if (Store.kindOf(plan) != DOCUMENT || store.countParts(plan) != 3) {
                return VALUE_FAULT;
            }
            int first = Store.placeOf(plan) + 4;
            int here = store.valueOf(first);
            int second = store.endOf(here);
            int there = store.valueOf(second);
            int third = store.endOf(there);
            int as = store.valueOf(third);
            if (!isText(first, here, "here") || !isText(second, there, "there") || !isText(third, as, "as")
                || !store.isPlain(Store.placeOf(as) + 4, store.endOf(as) - 1)) {
                return VALUE_FAULT;
            }
            if (!path.readText(here) || !path.readText(there)) {
                return PATH_FAULT;
            }
            gather();
            return path.readText(here) && matchAll(as) ? 0 : ROOM_FAULT;
        }

        private boolean isText(int part, int value, String name) {
            return Store.kindOf(value) == TEXT && store.named(part + 1, Store.placeOf(value) - 1, name);
        }

        private void gather() {
            count = 0;
            Arrays.fill(chains, -1);
            Arrays.fill(owners, -1);
            for (int k = 0; k < belts.back.count && k < DOCUMENTS_MOST; k++) {
                path.findLeaves(Store.ref(DOCUMENT, belts.back.start(k)));
                for (int i = 0; i < leavesToTake(); i++) {
                    remember(leafToTake(i), k);
                }
            }
        }

        /** No leaf at all is one leaf, NOTHING. */
        private int leavesToTake() {
            return Math.max(path.leafCount, 1);
        }

        private int leafToTake(int i) {
            int leaf = path.leaf(i);
            return leaf == MISSING ? NOTHING : leaf;
        }

        private static int chainOf(int hash) {
            return (hash ^ (hash >>> 10) ^ (hash >>> 20)) & (CHAINS - 1);
        }

        /** A document's own leaves are the first ones of each chain: of the SAME ones it needs one alone. */
        private void remember(int leaf, int document) {
            int hash = store.hash(leaf, 0);
            int chain = chainOf(hash);
            int i = chains[chain];
            for (int n = 0; n < count && i >= 0 && i < count && documents[i] == document; n++) {
                if (hashes[i] == hash && store.compare(leaf, leaves[i], 0) == 0) {
                    return;
                }
                i = nexts[i];
            }
            if (count < LEAVES_MOST) {
                leaves[count] = leaf;
                hashes[count] = hash;
                documents[count] = document;
                nexts[count] = chains[chain];
                chains[chain] = count;
                count++;
            }
        }

        private boolean matchAll(int as) {
            for (int k = 0; k < belts.front.count; k++) {
                path.findLeaves(belts.document(k));
                for (int i = 0; i < leavesToTake(); i++) {
                    match(leafToTake(i), k);
                }
                writeMatched(belts.document(k), k, as);
                if (!belts.accept()) {
                    return false;
                }
            }
            return true;
        }

        private void match(int leaf, int owner) {
            int hash = store.hash(leaf, 0);
            int i = chains[chainOf(hash)];
            for (int n = 0; n < count && i >= 0 && i < count; n++) {
                int document = documents[i];
                boolean open = hashes[i] == hash && document >= 0 && document < DOCUMENTS_MOST
                    && owners[document] != owner;
                if (open && store.compare(leaf, leaves[i], 0) == 0) {
                    owners[document] = owner;
                }
                i = nexts[i];
            }
        }

        private void writeMatched(int document, int k, int as) {
            Writer writer = belts.next();
            int start = writer.open();
            int from = Store.placeOf(as) + 4;
            int to = store.endOf(as) - 1;
            int own = store.find(document, from, to);
            int last = store.endOf(document) - 1;
            int cut = own == MISSING ? last : Store.placeOf(own) - 2 - (to - from);
            writer.copy(Store.placeOf(document) + 4, cut);
            writer.name(ROW, from, to);
            writeRow(writer, k);
            if (own != MISSING) {
                writer.copy(store.endOf(own), last);
            }
            writer.close(start);
        }

        private void writeRow(Writer writer, int k) {
            int start = writer.open();
            int items = 0;
            for (int i = 0; i < belts.back.count && i < DOCUMENTS_MOST && !writer.full; i++) {
                if (owners[i] == k) {
                    writer.index(DOCUMENT, items);
                    writer.copy(belts.back.start(i), belts.back.start(i + 1));
                    items++;
                }
            }
            writer.close(start);
        }
    }
}
