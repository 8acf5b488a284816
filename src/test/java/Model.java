import java.io.ByteArrayOutputStream;
import java.math.BigInteger;
import java.nio.ByteBuffer;
import java.util.ArrayList;
import java.util.Arrays;
import java.util.List;
import java.util.Map;
import java.util.TreeMap;

/** The document once more, written with the Java library and with texts in place of rows of bytes. */
final class Model {
    /** Content and name are texts with a character 0 .. 255 for each byte. */
    record Thing(int kind, String content, String name) {
        static Thing of(int kind, String content) {
            String word = List.of("commit", "tree", "blob").get(kind - 1);
            byte[] all = PackTool.text(word + " " + content.length() + "\0" + content);
            return new Thing(kind, content, textOf(PackTool.sha(all)));
        }
    }

    private static final class Wrong extends Exception {
        private static final long serialVersionUID = 1;
        final int code;

        Wrong(int code) {
            this.code = code;
        }
    }

    private final List<Thing> store = new ArrayList<>();
    private String typed = "";
    private final Map<Integer, Thing> draft = new TreeMap<>();
    private final Thing[] branches = new Thing[4];
    private byte[] pack = new byte[0];

    void load(byte[] row) {
        pack = row.clone();
    }

    static String textOf(byte[] row) {
        return new String(row, java.nio.charset.StandardCharsets.ISO_8859_1);
    }

    int type(long bits, int n) {
        if (n < 1 || n > 8) {
            return -1;
        }
        if (typed.length() + n > 64) {
            return -2;
        }
        byte[] eight = ByteBuffer.allocate(8).putLong(bits).array();
        typed += textOf(Arrays.copyOfRange(eight, 8 - n, 8));
        return typed.length();
    }

    private int bring(Thing thing) {
        int number = store.indexOf(thing);
        if (number >= 0) {
            return number;
        }
        if (store.size() == 16) {
            return -2;
        }
        store.add(thing);
        return store.size() - 1;
    }

    int blob() {
        int number = bring(Thing.of(3, typed));
        typed = number < 0 ? typed : "";
        return number;
    }

    int entry(int letter, int thing) {
        if (letter < 0 || letter > 25 || kind(thing) < 2) {
            return -1;
        }
        if (draft.size() == 4 && !draft.containsKey(letter)) {
            return -2;
        }
        draft.put(letter, store.get(thing));
        return draft.size();
    }

    int tree() {
        StringBuilder content = new StringBuilder();
        draft.forEach((letter, thing) -> content.append(thing.kind == 3 ? "100644 " : "40000 ")
                .append((char) (letter + 97)).append('\0').append(thing.name));
        int number = bring(Thing.of(2, content.toString()));
        if (number >= 0) {
            draft.clear();
        }
        return number;
    }

    int commit(int tree, int parent, int time) {
        if (kind(tree) != 2 || parent != -1 && kind(parent) != 1 || time < 0) {
            return -1;
        }
        String line = parent == -1 ? "" : "parent " + store.get(parent).name + "\n";
        return bring(Thing.of(1, "tree " + store.get(tree).name + "\n" + line + "at " + time + "\n"));
    }

    boolean branch(int b, int thing) {
        if (b < 0 || b > 3 || thing != -1 && kind(thing) != 1) {
            return false;
        }
        branches[b] = thing == -1 ? null : store.get(thing);
        return true;
    }

    int held(int b) {
        return b < 0 || b > 3 || branches[b] == null ? -1 : store.indexOf(branches[b]);
    }

    private List<Thing> allReached() {
        List<Thing> found = new ArrayList<>();
        for (Thing held : branches) {
            follow(held, found);
        }
        return found;
    }

    private void follow(Thing thing, List<Thing> found) {
        if (thing == null || found.contains(thing)) {
            return;
        }
        found.add(thing);
        for (Thing other : store) {
            if (thing.kind != 3 && thing.content.contains(other.name)) {
                follow(other, found);
            }
        }
    }

    int sweep() {
        int before = store.size();
        store.retainAll(allReached());
        draft.clear();
        return before - store.size();
    }

    int things() {
        return store.size();
    }

    private boolean has(int thing) {
        return thing >= 0 && thing < store.size();
    }

    int kind(int thing) {
        return has(thing) ? store.get(thing).kind : -1;
    }

    int size(int thing) {
        return has(thing) ? store.get(thing).content.length() : -1;
    }

    int byteOf(int thing, int i) {
        return i >= 0 && i < size(thing) ? store.get(thing).content.charAt(i) : -1;
    }

    int name(int thing, int k) {
        return has(thing) && k >= 0 && k < 5 ? ByteBuffer.wrap(PackTool.text(store.get(thing).name)).getInt(4 * k) : 0;
    }

    boolean reached(int thing) {
        return has(thing) && allReached().contains(store.get(thing));
    }

    int pack() {
        List<Thing> row = new ArrayList<>(store);
        row.sort(java.util.Comparator.comparingInt(Thing::kind));
        List<byte[]> written = new ArrayList<>();
        int chain = 0;
        for (int i = 0; i < row.size(); i++) {
            Thing thing = row.get(i);
            byte[] bytes = PackTool.whole(thing.kind, thing.content);
            int next = 0;
            if (i > 0 && row.get(i - 1).kind == thing.kind && chain < 3) {
                byte[] steps = steps(row.get(i - 1).content, thing.content);
                if (steps.length < thing.content.length()) {
                    bytes = PackTool.difference(written.get(i - 1).length, steps);
                    next = chain + 1;
                }
            }
            written.add(bytes);
            chain = next;
        }
        pack = PackTool.pack(written.toArray(new byte[0][]));
        return pack.length;
    }

    static byte[] steps(String x, String y) {
        ByteArrayOutputStream out = new ByteArrayOutputStream();
        out.write(x.length());
        out.write(y.length());
        String fresh = "";
        for (int i = 0; i < y.length();) {
            int n = y.length() - i;
            while (n > 0 && !x.contains(y.substring(i, i + n))) {
                n--;
            }
            if (n < 4) {
                fresh += y.charAt(i);
                i++;
                continue;
            }
            flush(fresh, out);
            fresh = "";
            out.write(145);
            out.write(x.indexOf(y.substring(i, i + n)));
            out.write(n);
            i += n;
        }
        flush(fresh, out);
        return out.toByteArray();
    }

    private static void flush(String fresh, ByteArrayOutputStream out) {
        if (!fresh.isEmpty()) {
            out.write(fresh.length());
            out.writeBytes(PackTool.text(fresh));
        }
    }

    int packed() {
        return pack.length;
    }

    int packByte(int i) {
        return i >= 0 && i < pack.length ? pack[i] & 255 : -1;
    }

    boolean alter(int i, int v) {
        if (packByte(i) < 0 || v < 0 || v > 255) {
            return false;
        }
        pack[i] = (byte) v;
        return true;
    }

    boolean cut(int n) {
        if (n < 1 || n > pack.length) {
            return false;
        }
        pack = Arrays.copyOf(pack, pack.length - n);
        return true;
    }

    boolean seal() {
        if (pack.length < 20) {
            return false;
        }
        pack = PackTool.sealed(Arrays.copyOf(pack, pack.length - 20));
        return true;
    }

    int unpack() {
        if (pack.length == 0) {
            return -1;
        }
        try {
            List<Thing> after = new ArrayList<>(store);
            for (Thing thing : readAll()) {
                if (!after.contains(thing)) {
                    after.add(thing);
                }
            }
            if (after.size() > 16) {
                return -2;
            }
            int came = after.size() - store.size();
            store.clear();
            store.addAll(after);
            return came;
        } catch (Wrong wrong) {
            return wrong.code;
        }
    }

    private List<Thing> readAll() throws Wrong {
        if (pack.length < 32 || !textOf(pack).startsWith("PACK\0\0\0\2")) {
            throw new Wrong(-3);
        }
        byte[] before = Arrays.copyOf(pack, pack.length - 20);
        if (!Arrays.equals(PackTool.sealed(before), pack)) {
            throw new Wrong(-4);
        }
        long told = ByteBuffer.wrap(pack).getInt(8) & 0xFFFFFFFFL;
        if (told > 16) {
            throw new Wrong(-2);
        }
        ByteBuffer in = ByteBuffer.wrap(before);
        in.position(12);
        Map<Integer, Thing> byPlace = new TreeMap<>();
        for (int i = 0; i < told; i++) {
            byPlace.put(in.position(), readOne(in, byPlace));
        }
        if (in.hasRemaining()) {
            throw new Wrong(-5);
        }
        return new ArrayList<>(byPlace.values());
    }

    private static int next(ByteBuffer in) throws Wrong {
        if (!in.hasRemaining()) {
            throw new Wrong(-5);
        }
        return in.get() & 255;
    }

    private static Thing readOne(ByteBuffer in, Map<Integer, Thing> byPlace) throws Wrong {
        int start = in.position();
        int value = next(in);
        int type = value / 16 % 8;
        if (!List.of(1, 2, 3, 6).contains(type)) {
            throw new Wrong(-6);
        }
        BigInteger n = BigInteger.valueOf(value % 16);
        for (int shift = 4; value > 127; shift += 7) {
            value = next(in);
            n = n.add(BigInteger.valueOf(value % 128).shiftLeft(shift));
        }
        if (n.compareTo(BigInteger.valueOf(120)) > 0) {
            throw new Wrong(-7);
        }
        if (type != 6) {
            return Thing.of(type, readWrapped(in, n.intValue()));
        }
        int distance = next(in);
        if (distance > 127) {
            distance = 128 * (distance - 127) + next(in);
        }
        Thing other = byPlace.get(start - distance);
        if (other == null) {
            throw new Wrong(-8);
        }
        return Thing.of(other.kind, carriedOut(readWrapped(in, n.intValue()), other.content));
    }

    private static String readWrapped(ByteBuffer in, int n) throws Wrong {
        byte[] data = new byte[n];
        byte[] want = PackTool.wrap(data);
        for (int i = 0; i < 7 + n + 4; i++) {
            int value = next(in);
            if (i >= 7 && i < 7 + n) {
                data[i - 7] = (byte) value;
                want = PackTool.wrap(data);
            } else if (value != (want[i] & 255)) {
                throw new Wrong(-9);
            }
        }
        return textOf(data);
    }

    private static String carriedOut(String steps, String other) throws Wrong {
        String out = "";
        try {
            for (int i = 2; i < steps.length();) {
                int first = steps.charAt(i);
                if (first == 145) {
                    int from = steps.charAt(i + 1);
                    out += other.substring(from, from + steps.charAt(i + 2));
                    i += 3;
                } else if (first == 0 || first > 127) {
                    throw new Wrong(-10);
                } else {
                    out += steps.substring(i + 1, i + 1 + first);
                    i += 1 + first;
                }
            }
            if (steps.charAt(0) != other.length() || steps.charAt(1) != out.length() || out.length() > 120) {
                throw new Wrong(-10);
            }
        } catch (IndexOutOfBoundsException e) {
            throw new Wrong(-10);
        }
        return out;
    }
}
