import java.util.Arrays;

/** A store of things named by what they are, with branches, and one pack that it writes and reads. */
public final class PackShelf {
    public static final int BAD = -1;
    public static final int FULL = -2;
    public static final int SHORT = -3, SEAL = -4, ENDS = -5, TYPE = -6, LARGE = -7, BASE = -8, WRAP = -9, DIFFERENCE = -10;

    /** What a step of the reading answers when nothing is wrong; all faults are below it. */
    private static final int FINE = 0;
    private static final int NOTHING = -1;

    private static final int COMMIT_KIND = 1;
    private static final int TREE_KIND = 2;
    private static final int BLOB_KIND = 3;
    private static final int DIFFERENCE_TYPE = 6;

    private static final int MOST_THINGS = 16;
    private static final int MOST_CONTENT = 120;
    private static final int MOST_TYPED = 64;
    private static final int MOST_ENTRIES = 4;
    private static final int LETTERS = 26;
    private static final int BRANCHES = 4;

    private static final int SUM_INTS = 5;
    private static final int SUM_BYTES = 20;

    private static final int PACK_WORD = 0x5041434B;
    private static final int PACK_VERSION = 2;
    private static final int PACK_HEAD = 12;
    /** Each thing has at most two bytes of mark, two of distance and eleven of wrapping round its data. */
    private static final int PACK_ROOM = PACK_HEAD + MOST_THINGS * (15 + MOST_CONTENT) + SUM_BYTES;

    private static final int COPY = 145;
    private static final int SHORTEST_COPY = 4;
    private static final int MOST_NEW = 127;
    private static final int MOST_IN_ROW = 3;

    private final Store store;
    private final Row typed;
    /** By letter, the number of the thing of its entry, or NOTHING. */
    private final int[] draft;
    private int drafted;
    private final Row packRow;
    private final Sum sum;
    private final Thing made;
    private final Writer writer;
    private final Reader reader;

    public PackShelf() {
        store = new Store();
        typed = new Row(MOST_TYPED);
        draft = new int[LETTERS];
        Arrays.fill(draft, NOTHING);
        drafted = 0;
        packRow = new Row(PACK_ROOM);
        sum = new Sum();
        made = new Thing();
        writer = new Writer();
        reader = new Reader();
    }

    public int type(long bits, int n) {
        if (n < 1 || n > 8) {
            return BAD;
        }
        if (typed.length + n > MOST_TYPED) {
            return FULL;
        }
        for (int i = n - 1; i >= 0; i--) {
            typed.put((int) (bits >>> (8 * i)) & 255);
        }
        return typed.length;
    }

    public int blob() {
        made.begin(BLOB_KIND);
        made.content.putPart(typed, 0, typed.length);
        int number = bringMade();
        if (number >= 0) {
            typed.clear();
        }
        return number;
    }

    public int entry(int letter, int thing) {
        if (letter < 0 || letter >= LETTERS) {
            return BAD;
        }
        int kind = store.kindOf(thing);
        if (kind != BLOB_KIND && kind != TREE_KIND) {
            return BAD;
        }
        if (draft[letter] == NOTHING) {
            if (drafted == MOST_ENTRIES) {
                return FULL;
            }
            drafted++;
        }
        draft[letter] = thing;
        return drafted;
    }

    public int tree() {
        made.begin(TREE_KIND);
        for (int letter = 0; letter < LETTERS; letter++) {
            if (store.has(draft[letter])) {
                putEntry(letter, store.things[draft[letter]]);
            }
        }
        int number = bringMade();
        if (number >= 0) {
            dropDraft();
        }
        return number;
    }

    public int commit(int tree, int parent, int time) {
        if (store.kindOf(tree) != TREE_KIND || time < 0) {
            return BAD;
        }
        if (parent != NOTHING && store.kindOf(parent) != COMMIT_KIND) {
            return BAD;
        }
        made.begin(COMMIT_KIND);
        putNamed("tree ", tree);
        if (parent != NOTHING) {
            putNamed("parent ", parent);
        }
        made.content.putText("at ");
        made.content.putDecimal(time);
        made.content.put('\n');
        return bringMade();
    }

    public boolean branch(int b, int thing) {
        if (b < 0 || b >= BRANCHES) {
            return false;
        }
        if (thing != NOTHING && store.kindOf(thing) != COMMIT_KIND) {
            return false;
        }
        store.holds[b] = thing;
        return true;
    }

    public int held(int b) {
        if (b < 0 || b >= BRANCHES || store.holds[b] == NOTHING) {
            return BAD;
        }
        return store.holds[b];
    }

    public int sweep() {
        dropDraft();
        return store.dropUnreached();
    }

    public int things() {
        return store.count;
    }

    public int kind(int thing) {
        return store.kindOf(thing);
    }

    public int size(int thing) {
        return store.has(thing) ? store.things[thing].content.length : BAD;
    }

    public int byteOf(int thing, int i) {
        return store.has(thing) ? store.things[thing].content.at(i) : BAD;
    }

    public int name(int thing, int k) {
        if (!store.has(thing) || k < 0 || k >= SUM_INTS) {
            return 0;
        }
        return store.things[thing].name[k];
    }

    public boolean reached(int thing) {
        if (!store.has(thing)) {
            return false;
        }
        store.markReached();
        return store.isReached[thing];
    }

    public int pack() {
        writer.writeAll(store, packRow);
        sum.ofRow(packRow, packRow.length);
        packRow.putInts(sum.ints);
        return packRow.length;
    }

    public int packed() {
        return packRow.length;
    }

    public int packByte(int i) {
        return packRow.at(i);
    }

    public boolean alter(int i, int v) {
        if (i < 0 || i >= packRow.length || v < 0 || v > 255) {
            return false;
        }
        packRow.bytes[i] = v;
        return true;
    }

    public boolean cut(int n) {
        if (n < 1 || n > packRow.length) {
            return false;
        }
        packRow.length -= n;
        return true;
    }

    public boolean seal() {
        if (packRow.length < SUM_BYTES) {
            return false;
        }
        packRow.length -= SUM_BYTES;
        sum.ofRow(packRow, packRow.length);
        packRow.putInts(sum.ints);
        return true;
    }

    public int unpack() {
        if (packRow.length == 0) {
            return BAD;
        }
        int wrong = lookAtEnds();
        if (wrong == FINE) {
            wrong = reader.readThings(packRow);
        }
        if (wrong != FINE) {
            return wrong;
        }
        for (int i = 0; i < reader.count; i++) {
            sum.giveName(reader.read[i]);
        }
        if (store.count + reader.countNew(store) > MOST_THINGS) {
            return FULL;
        }
        return bringRead();
    }

    /** What is wrong with the pack before its things are looked at. */
    private int lookAtEnds() {
        if (packRow.length < PACK_HEAD + SUM_BYTES) {
            return SHORT;
        }
        if (packRow.intAt(0) != PACK_WORD || packRow.intAt(4) != PACK_VERSION) {
            return SHORT;
        }
        int end = packRow.length - SUM_BYTES;
        sum.ofRow(packRow, end);
        if (!packRow.hasInts(end, sum.ints)) {
            return SEAL;
        }
        int told = packRow.intAt(8);
        // The four bytes have no sign: an int below 0 stands for a number far above the limit.
        return told < 0 || told > MOST_THINGS ? FULL : FINE;
    }

    private int bringRead() {
        int before = store.count;
        for (int i = 0; i < reader.count; i++) {
            store.bring(reader.read[i]);
        }
        return store.count - before;
    }

    private int bringMade() {
        sum.giveName(made);
        return store.bring(made);
    }

    private void putEntry(int letter, Thing thing) {
        made.content.putText(thing.kind == BLOB_KIND ? "100644 " : "40000 ");
        made.content.put('a' + letter);
        made.content.put(0);
        made.content.putInts(thing.name);
    }

    private void putNamed(String word, int thing) {
        made.content.putText(word);
        if (store.has(thing)) {
            made.content.putInts(store.things[thing].name);
        }
        made.content.put('\n');
    }

    private void dropDraft() {
        Arrays.fill(draft, NOTHING);
        drafted = 0;
    }

    /** Bytes (0 .. 255) one behind the other, with room for so many. */
    private static final class Row {
        final int[] bytes;
        int length;

        Row(int room) {
            bytes = new int[room];
            length = 0;
        }

        void clear() {
            length = 0;
        }

        int at(int i) {
            return i >= 0 && i < length ? bytes[i] : BAD;
        }

        void put(int value) {
            if (length < bytes.length) {
                bytes[length] = value;
                length++;
            }
        }

        void putText(String text) {
            for (int i = 0; i < text.length(); i++) {
                put(text.charAt(i));
            }
        }

        void putDecimal(int number) {
            for (int unit = 1000000000; unit > 0; unit /= 10) {
                // A number of 0 still has one digit.
                if (number >= unit || unit == 1) {
                    put('0' + number / unit % 10);
                }
            }
        }

        void putHighFirst(int number, int n) {
            for (int i = n - 1; i >= 0; i--) {
                put(number >>> (8 * i) & 255);
            }
        }

        void putLowFirst(int number, int n) {
            for (int i = 0; i < n; i++) {
                put(number >>> (8 * i) & 255);
            }
        }

        void putInts(int[] ints) {
            for (int i = 0; i < ints.length; i++) {
                putHighFirst(ints[i], 4);
            }
        }

        /** False, with nothing put, when the other row has no such part or there is no room for it. */
        boolean putPart(Row other, int from, int n) {
            if (from < 0 || n < 0 || from + n > other.length || length + n > bytes.length) {
                return false;
            }
            System.arraycopy(other.bytes, from, bytes, length, n);
            length += n;
            return true;
        }

        int intAt(int i) {
            if (i < 0 || i + 4 > length) {
                return 0;
            }
            return bytes[i] << 24 | bytes[i + 1] << 16 | bytes[i + 2] << 8 | bytes[i + 3];
        }

        boolean hasInts(int place, int[] ints) {
            if (place < 0 || place + 4 * ints.length > length) {
                return false;
            }
            for (int k = 0; k < ints.length; k++) {
                if (intAt(place + 4 * k) != ints[k]) {
                    return false;
                }
            }
            return true;
        }

        boolean hasIntsAnywhere(int[] ints) {
            for (int place = 0; place + 4 * ints.length <= length; place++) {
                if (hasInts(place, ints)) {
                    return true;
                }
            }
            return false;
        }
    }

    /** The sum of bytes; it stands in ints until the next one is made. */
    private static final class Sum {
        private static final int[] FIRST = {1732584193, -271733879, -1732584194, 271733878, -1009589776};
        private static final int[] ADDED = {1518500249, 1859775393, -1894007588, -899497514};
        private static final int HEAD_ROOM = 11;

        final int[] ints;
        private final int[] words;
        private final Row head;
        private int taken;

        Sum() {
            ints = new int[SUM_INTS];
            words = new int[80];
            head = new Row(HEAD_ROOM);
            taken = 0;
        }

        void ofRow(Row row, int n) {
            begin();
            takeRow(row, n);
            end();
        }

        void giveName(Thing thing) {
            head.clear();
            head.putText(thing.kind == COMMIT_KIND ? "commit " : thing.kind == TREE_KIND ? "tree " : "blob ");
            head.putDecimal(thing.content.length);
            head.put(0);
            begin();
            takeRow(head, head.length);
            takeRow(thing.content, thing.content.length);
            end();
            System.arraycopy(ints, 0, thing.name, 0, SUM_INTS);
        }

        private void begin() {
            System.arraycopy(FIRST, 0, ints, 0, SUM_INTS);
            taken = 0;
        }

        private void takeRow(Row row, int n) {
            for (int i = 0; i < n && i < row.length; i++) {
                take(row.bytes[i]);
            }
        }

        private void take(int value) {
            int word = (taken & 63) >> 2;
            // Four bytes push out all that the word had before, so it needs no clearing.
            words[word] = words[word] << 8 | value;
            taken++;
            if ((taken & 63) == 0) {
                stir();
            }
        }

        private void end() {
            int bits = 8 * taken;
            take(128);
            for (int zeros = (120 - (taken & 63)) & 63; zeros > 0; zeros--) {
                take(0);
            }
            // No row here is so long that its bits need more than the lower four of the eight bytes.
            for (int i = 0; i < 4; i++) {
                take(0);
            }
            for (int shift = 24; shift >= 0; shift -= 8) {
                take(bits >>> shift & 255);
            }
        }

        private void stir() {
            for (int t = 16; t < 80; t++) {
                words[t] = turned(words[t - 3] ^ words[t - 8] ^ words[t - 14] ^ words[t - 16], 1);
            }
            int a = ints[0];
            int b = ints[1];
            int c = ints[2];
            int d = ints[3];
            int e = ints[4];
            for (int t = 0; t < 80; t++) {
                int x = turned(a, 5) + mixed(t / 20, b, c, d) + e + ADDED[t / 20] + words[t];
                e = d;
                d = c;
                c = turned(b, 30);
                b = a;
                a = x;
            }
            ints[0] += a;
            ints[1] += b;
            ints[2] += c;
            ints[3] += d;
            ints[4] += e;
        }

        private static int mixed(int quarter, int b, int c, int d) {
            if (quarter == 0) {
                return (b & c) | (~b & d);
            }
            if (quarter == 2) {
                return (b & c) | (b & d) | (c & d);
            }
            return b ^ c ^ d;
        }

        private static int turned(int value, int by) {
            return value << by | value >>> (32 - by);
        }
    }

    /** A commit, tree or blob: its kind, its content and its name. */
    private static final class Thing {
        int kind;
        final Row content;
        final int[] name;

        Thing() {
            kind = BLOB_KIND;
            content = new Row(MOST_CONTENT);
            name = new int[SUM_INTS];
        }

        void begin(int newKind) {
            kind = newKind;
            content.clear();
        }

        void become(Thing other) {
            begin(other.kind);
            content.putPart(other.content, 0, other.content.length);
            System.arraycopy(other.name, 0, name, 0, SUM_INTS);
        }

        boolean isNamedAs(Thing other) {
            for (int k = 0; k < SUM_INTS; k++) {
                if (name[k] != other.name[k]) {
                    return false;
                }
            }
            return true;
        }

        boolean refersTo(Thing other) {
            return kind != BLOB_KIND && content.hasIntsAnywhere(other.name);
        }
    }

    /** The things by their numbers, and the branches that hold some of them. */
    private static final class Store {
        final Thing[] things;
        int count;
        /** By branch, the number of its commit, or NOTHING. */
        final int[] holds;
        final boolean[] isReached;
        private final int[] queue;
        private int queued;

        Store() {
            things = new Thing[MOST_THINGS];
            for (int i = 0; i < MOST_THINGS; i++) {
                things[i] = new Thing();
            }
            count = 0;
            holds = new int[BRANCHES];
            Arrays.fill(holds, NOTHING);
            isReached = new boolean[MOST_THINGS];
            queue = new int[MOST_THINGS];
            queued = 0;
        }

        boolean has(int number) {
            return number >= 0 && number < count;
        }

        int kindOf(int number) {
            return has(number) ? things[number].kind : BAD;
        }

        int numberOf(Thing thing) {
            for (int i = 0; i < count; i++) {
                if (things[i].isNamedAs(thing)) {
                    return i;
                }
            }
            return NOTHING;
        }

        /** The number that the thing has from now on, be it there already or not; or FULL. */
        int bring(Thing thing) {
            int number = numberOf(thing);
            if (number != NOTHING) {
                return number;
            }
            if (count >= MOST_THINGS) {
                return FULL;
            }
            things[count].become(thing);
            count++;
            return count - 1;
        }

        void markReached() {
            for (int i = 0; i < MOST_THINGS; i++) {
                isReached[i] = false;
            }
            queued = 0;
            for (int b = 0; b < BRANCHES; b++) {
                reach(holds[b]);
            }
            for (int next = 0; next < queued && next < MOST_THINGS; next++) {
                Thing from = things[queue[next]];
                for (int i = 0; i < count; i++) {
                    if (!isReached[i] && from.refersTo(things[i])) {
                        reach(i);
                    }
                }
            }
        }

        private void reach(int number) {
            if (has(number) && !isReached[number] && queued < MOST_THINGS) {
                isReached[number] = true;
                queue[queued] = number;
                queued++;
            }
        }

        int dropUnreached() {
            markReached();
            int kept = 0;
            for (int i = 0; i < count; i++) {
                if (isReached[i]) {
                    moveDown(i, kept);
                    kept++;
                }
            }
            int gone = count - kept;
            count = kept;
            return gone;
        }

        private void moveDown(int from, int to) {
            if (from == to) {
                return;
            }
            things[to].become(things[from]);
            // A branch that moved earlier holds a lower number than any that is still to move.
            for (int b = 0; b < BRANCHES; b++) {
                if (holds[b] == from) {
                    holds[b] = to;
                }
            }
        }
    }

    /** How one content is told by another one. */
    private static final class Differences {
        static void write(Row x, Row y, Row out) {
            out.clear();
            out.put(x.length);
            out.put(y.length);
            int fresh = 0;
            int place = 0;
            while (place < y.length) {
                int from = bestPlace(x, y, place);
                int n = alike(x, from, y, place);
                if (n >= SHORTEST_COPY) {
                    putNew(y, place - fresh, fresh, out);
                    fresh = 0;
                    out.put(COPY);
                    out.put(from);
                    out.put(n);
                    place += n;
                } else {
                    fresh++;
                    place++;
                }
            }
            putNew(y, place - fresh, fresh, out);
        }

        private static void putNew(Row y, int from, int n, Row out) {
            if (n > 0) {
                out.put(n);
                out.putPart(y, from, n);
            }
        }

        private static int bestPlace(Row x, Row y, int place) {
            int best = 0;
            int longest = 0;
            for (int from = 0; from < x.length; from++) {
                int n = alike(x, from, y, place);
                if (n > longest) {
                    longest = n;
                    best = from;
                }
            }
            return best;
        }

        private static int alike(Row x, int from, Row y, int place) {
            int n = 0;
            while (from + n < x.length && place + n < y.length && x.bytes[from + n] == y.bytes[place + n]) {
                n++;
            }
            return n;
        }

        /** False when the difference can not be carried out in full. */
        static boolean carryOut(Row steps, Row other, Row out) {
            if (steps.length < 2 || steps.at(0) != other.length) {
                return false;
            }
            int place = 2;
            while (place < steps.length) {
                int first = steps.at(place);
                boolean done;
                if (first == COPY) {
                    // A place or length that is missing reads as BAD, which putPart refuses.
                    done = out.putPart(other, steps.at(place + 1), steps.at(place + 2));
                    place += 3;
                } else {
                    done = first > 0 && first <= MOST_NEW && out.putPart(steps, place + 1, first);
                    place += 1 + first;
                }
                if (!done) {
                    return false;
                }
            }
            return out.length == steps.at(1);
        }
    }

    /** What stands round wrapped data. */
    private static final class Wrapping {
        private static final int MODULUS = 65521;
        static final int HEAD = 7;

        static void putHead(int n, Row out) {
            out.put(120);
            out.put(1);
            out.put(1);
            out.putLowFirst(n, 2);
            out.putLowFirst(65535 - n, 2);
        }

        static void putTail(Row data, Row out) {
            int a = 1;
            int b = 0;
            for (int i = 0; i < data.length; i++) {
                a = (a + data.at(i)) % MODULUS;
                b = (b + a) % MODULUS;
            }
            out.putHighFirst(b, 2);
            out.putHighFirst(a, 2);
        }
    }

    /** Writes all things of a store into a pack; the sum at its end is left to the caller. */
    private static final class Writer {
        private final Row steps;
        private Thing before;
        private int beforeStart;
        private int inRow;

        Writer() {
            // The two lengths and one number of new bytes come on top; each number more stands behind a copy,
            // which is shorter than what it copies.
            steps = new Row(MOST_CONTENT + 3);
            before = null;
            beforeStart = 0;
            inRow = 0;
        }

        void writeAll(Store store, Row out) {
            out.clear();
            out.putHighFirst(PACK_WORD, 4);
            out.putHighFirst(PACK_VERSION, 4);
            out.putHighFirst(store.count, 4);
            before = null;
            inRow = 0;
            for (int kind = COMMIT_KIND; kind <= BLOB_KIND; kind++) {
                for (int i = 0; i < store.count; i++) {
                    if (store.things[i].kind == kind) {
                        writeThing(store.things[i], out);
                    }
                }
            }
        }

        private void writeThing(Thing thing, Row out) {
            int start = out.length;
            if (isShorterAsDifference(thing)) {
                putMark(DIFFERENCE_TYPE, steps.length, out);
                putDistance(start - beforeStart, out);
                putWrapped(steps, out);
                inRow++;
            } else {
                putMark(thing.kind, thing.content.length, out);
                putWrapped(thing.content, out);
                inRow = 0;
            }
            before = thing;
            beforeStart = start;
        }

        /** Leaves the difference in steps. */
        private boolean isShorterAsDifference(Thing thing) {
            if (before == null || before.kind != thing.kind || inRow >= MOST_IN_ROW) {
                return false;
            }
            Differences.write(before.content, thing.content, steps);
            return steps.length < thing.content.length;
        }

        private static void putMark(int type, int n, Row out) {
            int rest = n >> 4;
            out.put((n & 15) + 16 * type + (rest > 0 ? 128 : 0));
            // A content's limit leaves three bits of rest, so one byte more always does.
            if (rest > 0) {
                out.put(rest);
            }
        }

        private static void putDistance(int distance, Row out) {
            if (distance < 128) {
                out.put(distance);
            } else {
                out.put(128 + (distance - 128) / 128);
                out.put((distance - 128) % 128);
            }
        }

        private static void putWrapped(Row data, Row out) {
            Wrapping.putHead(data.length, out);
            out.putPart(data, 0, data.length);
            Wrapping.putTail(data, out);
        }
    }

    /** Reads the things of a pack; they stand, without names, in read until the next reading. */
    private static final class Reader {
        final Thing[] read;
        int count;
        private final int[] starts;
        private final Row data;
        private final Row due;
        private int place;
        private int end;

        Reader() {
            read = new Thing[MOST_THINGS];
            for (int i = 0; i < MOST_THINGS; i++) {
                read[i] = new Thing();
            }
            count = 0;
            starts = new int[MOST_THINGS];
            data = new Row(MOST_CONTENT);
            due = new Row(Wrapping.HEAD);
            place = 0;
            end = 0;
        }

        /** FINE, or what is wrong with the first thing that is wrong, or ENDS for bytes left over. */
        int readThings(Row pack) {
            int told = pack.intAt(8);
            count = 0;
            place = PACK_HEAD;
            end = pack.length - SUM_BYTES;
            int wrong = FINE;
            while (wrong == FINE && count < told && count < MOST_THINGS) {
                wrong = readThing(pack, read[count]);
                count++;
            }
            return wrong == FINE && place < end ? ENDS : wrong;
        }

        /** How many different things were read that a store does not have. */
        int countNew(Store store) {
            int fresh = 0;
            for (int i = 0; i < count; i++) {
                if (store.numberOf(read[i]) == NOTHING && !isReadBefore(i)) {
                    fresh++;
                }
            }
            return fresh;
        }

        private boolean isReadBefore(int number) {
            for (int i = 0; i < number; i++) {
                if (read[i].isNamedAs(read[number])) {
                    return true;
                }
            }
            return false;
        }

        private int readThing(Row pack, Thing into) {
            starts[count] = place;
            int first = nextByte(pack);
            if (first < 0) {
                return first;
            }
            int type = first >> 4 & 7;
            boolean isDifference = type == DIFFERENCE_TYPE;
            if (!isDifference && (type < COMMIT_KIND || type > BLOB_KIND)) {
                return TYPE;
            }
            int n = readNumber(pack, first);
            if (n < 0) {
                return n;
            }
            int other = isDifference ? readOther(pack) : 0;
            if (other < 0) {
                return other;
            }
            int wrong = readWrapped(pack, n);
            if (wrong != FINE) {
                return wrong;
            }
            return isDifference ? takeDifference(read[other], into) : takeWhole(type, into);
        }

        private int takeWhole(int kind, Thing into) {
            into.begin(kind);
            into.content.putPart(data, 0, data.length);
            return FINE;
        }

        private int takeDifference(Thing other, Thing into) {
            into.begin(other.kind);
            return Differences.carryOut(data, other.content, into.content) ? FINE : DIFFERENCE;
        }

        /** The next byte, or ENDS. */
        private int nextByte(Row pack) {
            if (place >= end) {
                return ENDS;
            }
            place++;
            return pack.at(place - 1);
        }

        /** The number of bytes of data that a mark tells, or ENDS or LARGE. */
        private int readNumber(Row pack, int first) {
            int n = first & 15;
            int weight = 16;
            boolean more = first >= 128;
            for (int left = end - place; more && left > 0; left--) {
                int value = nextByte(pack);
                // Held just above the limit, neither can run over however long the mark is.
                n = Math.min(n + (value & 127) * weight, MOST_CONTENT + 1);
                weight = Math.min(weight * 128, 65536);
                more = value >= 128;
            }
            if (more) {
                return ENDS;
            }
            return n > MOST_CONTENT ? LARGE : n;
        }

        /** Which thing the distance leads back to, or ENDS or BASE. */
        private int readOther(Row pack) {
            int distance = nextByte(pack);
            if (distance < 0) {
                return distance;
            }
            if (distance >= 128) {
                int low = nextByte(pack);
                if (low < 0) {
                    return low;
                }
                distance = 128 * (distance - 127) + low;
            }
            for (int i = 0; i < count; i++) {
                if (starts[i] == starts[count] - distance) {
                    return i;
                }
            }
            return BASE;
        }

        /** Leaves what was wrapped in data: FINE, or ENDS or WRAP. */
        private int readWrapped(Row pack, int n) {
            due.clear();
            Wrapping.putHead(n, due);
            int wrong = readDue(pack);
            if (wrong != FINE) {
                return wrong;
            }
            data.clear();
            for (int i = 0; i < n; i++) {
                int value = nextByte(pack);
                if (value < 0) {
                    return value;
                }
                data.put(value);
            }
            due.clear();
            Wrapping.putTail(data, due);
            return readDue(pack);
        }

        private int readDue(Row pack) {
            for (int i = 0; i < due.length; i++) {
                int value = nextByte(pack);
                if (value < 0) {
                    return value;
                }
                if (value != due.at(i)) {
                    return WRAP;
                }
            }
            return FINE;
        }
    }
}
