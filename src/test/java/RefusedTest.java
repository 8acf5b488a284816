import java.util.Arrays;
import java.util.function.Supplier;
import java.util.function.ToIntFunction;

/** What each call leaves as it was: a refused one and one that only asks leave all, the others all but their own part. */
public final class RefusedTest {
    private static final Check CHECK = new Check();
    private static final int BAD = PackShelf.BAD;
    private static final int FULL = PackShelf.FULL;
    private static final int LOWEST = Integer.MIN_VALUE;
    private static final int HIGHEST = Integer.MAX_VALUE;
    private static final byte[] TEN = PackTool.whole(3, "0123456789");
    private static final byte[] RIGHT = PackTool.pack(TEN, PackTool.whole(1, "not there"));

    public static void main(String[] args) {
        type();
        blob();
        entry();
        tree();
        commit();
        branch();
        asking();
        alter();
        cut();
        seal();
        unpackFaults();
        unpackFull();
        onlyItsOwnPart();
        CHECK.end();
    }

    private static void type() {
        CHECK.sentence("Promise 2", "BAD when n is not 1 .. 8; FULL when there would be more than 64");
        for (int n : new int[] {0, 9, -1, LOWEST, HIGHEST}) {
            leavesAll("type(.., " + n + ")", some(RIGHT), x -> x.type(0x2122232425262728L, n), BAD);
        }
        for (int n : new int[] {1, 8}) {
            leavesAll("type(.., " + n + ") with 64", full(RIGHT), x -> x.type(0x2122232425262728L, n), FULL);
        }
        leavesAll("type(.., 8) with 57", () -> typed(some(RIGHT).get(), 54), x -> x.type(5, 8), FULL);
    }

    private static void blob() {
        CHECK.sentence("Promise 3", "FULL (nothing changes) when it would be the 17th thing");
        leavesAll("blob()", full(RIGHT), PackShelf::blob, FULL);
    }

    private static void entry() {
        CHECK.sentence("Promise 4", "BAD when letter is not 0 .. 25, or thing is no blob or tree; FULL when there would be five");
        for (int letter : new int[] {-1, 26, LOWEST, HIGHEST}) {
            leavesAll("entry(" + letter + ", 0)", some(RIGHT), x -> x.entry(letter, 0), BAD);
        }
        for (int thing : new int[] {-1, 3, 6, 16, LOWEST, HIGHEST}) {
            leavesAll("a new letter, " + thing, some(RIGHT), x -> x.entry(1, thing), BAD);
            leavesAll("a letter that is there, " + thing, some(RIGHT), x -> x.entry(7, thing), BAD);
        }
        leavesAll("a fifth", full(RIGHT), x -> x.entry(25, 0), FULL);
    }

    private static void tree() {
        CHECK.sentence("Promise 5", "FULL likewise");
        leavesAll("tree()", full(RIGHT), PackShelf::tree, FULL);
    }

    private static void commit() {
        CHECK.sentence("Promise 6", "BAD when tree is no tree, parent no commit and not -1, or time below 0; FULL likewise");
        leavesAll("no tree", some(RIGHT), x -> x.commit(0, -1, 9), BAD);
        leavesAll("none such", some(RIGHT), x -> x.commit(6, -1, 9), BAD);
        leavesAll("parent is a tree", some(RIGHT), x -> x.commit(2, 2, 9), BAD);
        leavesAll("parent -2", some(RIGHT), x -> x.commit(2, -2, 9), BAD);
        leavesAll("time -1", some(RIGHT), x -> x.commit(2, 3, -1), BAD);
        leavesAll("the 17th", full(RIGHT), x -> x.commit(2, 3, 77), FULL);
    }

    private static void branch() {
        CHECK.sentence("Promise 7", "false when there is no such branch, or thing is neither a commit nor -1");
        for (int b : new int[] {-1, 4, LOWEST, HIGHEST}) {
            leavesAll("branch(" + b + ", 3)", some(RIGHT), x -> x.branch(b, 3) ? 1 : 0, 0);
            leavesAll("branch(" + b + ", -1)", some(RIGHT), x -> x.branch(b, -1) ? 1 : 0, 0);
        }
        for (int thing : new int[] {-2, 0, 2, 6, 16, LOWEST, HIGHEST}) {
            leavesAll("branch(0, " + thing + ")", some(RIGHT), x -> x.branch(0, thing) ? 1 : 0, 0);
            leavesAll("branch(1, " + thing + ")", some(RIGHT), x -> x.branch(1, thing) ? 1 : 0, 0);
        }
    }

    private static void asking() {
        CHECK.sentence("Promises 8, 10 to 15, 17 and 18", "what only asks changes nothing");
        for (int i : new int[] {0, 2, 3, -1, 6, 16, LOWEST, HIGHEST}) {
            leavesAll("all that ask, " + i, some(RIGHT), x -> {
                x.held(i);
                x.kind(i);
                x.size(i);
                x.byteOf(i, i);
                x.name(i, i);
                x.reached(i);
                x.packByte(i);
                return x.things() + x.packed();
            }, 6 + RIGHT.length);
        }
    }

    private static void alter() {
        CHECK.sentence("Promise 19", "false when there is none, or v is not 0 .. 255");
        for (int v : new int[] {-1, 256, LOWEST, HIGHEST}) {
            leavesAll("alter(9, " + v + ")", some(RIGHT), x -> x.alter(9, v) ? 1 : 0, 0);
        }
        for (int i : new int[] {-1, RIGHT.length, LOWEST, HIGHEST}) {
            leavesAll("alter(" + i + ", 7)", some(RIGHT), x -> x.alter(i, 7) ? 1 : 0, 0);
        }
    }

    private static void cut() {
        CHECK.sentence("Promise 20", "false when n is not from 1 to as many as there are");
        for (int n : new int[] {0, -1, RIGHT.length + 1, LOWEST, HIGHEST}) {
            leavesAll("cut(" + n + ")", some(RIGHT), x -> x.cut(n) ? 1 : 0, 0);
        }
    }

    private static void seal() {
        CHECK.sentence("Promise 21", "false when there are fewer than 20");
        for (int n : new int[] {1, 18, 19}) {
            leavesAll("seal() of " + n, some(Arrays.copyOf(RIGHT, n)), x -> x.seal() ? 1 : 0, 0);
        }
        leavesAll("seal() of none", () -> {
            PackShelf x = some(RIGHT).get();
            x.cut(RIGHT.length);
            return x;
        }, x -> x.seal() ? 1 : 0, 0);
    }

    /** In each of these packs a good thing that is not in the store stands before what is wrong. */
    private static void unpackFaults() {
        CHECK.sentence("Terms, reading", "nothing changes if something is wrong");
        byte[] good = PackTool.join(PackTool.head(2), TEN);
        byte[] badWrap = PackTool.whole(3, "wrap");
        badWrap[1] = 0;
        wrong("SHORT", Arrays.copyOf(RIGHT, 31), PackShelf.SHORT);
        byte[] otherHead = RIGHT.clone();
        otherHead[7] = 3;
        wrong("SHORT by its first bytes", otherHead, PackShelf.SHORT);
        byte[] otherEnd = RIGHT.clone();
        otherEnd[otherEnd.length - 1] ^= 1;
        wrong("SEAL", otherEnd, PackShelf.SEAL);
        wrong("FULL by its number", PackTool.sealed(PackTool.join(PackTool.head(17), TEN)), FULL);
        wrong("ENDS", PackTool.sealed(good), PackShelf.ENDS);
        wrong("TYPE", PackTool.sealed(PackTool.join(good, PackTool.bytes(0))), PackShelf.TYPE);
        wrong("LARGE", PackTool.sealed(PackTool.join(good, PackTool.mark(1, 121))), PackShelf.LARGE);
        wrong("BASE", PackTool.sealed(PackTool.join(good, PackTool.difference(1, new byte[2]))), PackShelf.BASE);
        wrong("WRAP", PackTool.sealed(PackTool.join(good, badWrap)), PackShelf.WRAP);
        wrong("DIFFERENCE", PackTool.sealed(PackTool.join(good, PackTool.difference(TEN.length, new byte[2]))),
                PackShelf.DIFFERENCE);
        wrong("ENDS, bytes left", PackTool.sealed(PackTool.join(good, PackTool.whole(1, "c"), new byte[1])), PackShelf.ENDS);
    }

    private static void wrong(String what, byte[] pack, int answer) {
        leavesAll(what, some(pack), PackShelf::unpack, answer);
    }

    /** One of the two things would still find room. */
    private static void unpackFull() {
        CHECK.sentence("Terms, reading", "nothing changes: FULL: the store would have more than 16 things");
        leavesAll("with 16", full(RIGHT), PackShelf::unpack, FULL);
        leavesAll("with 15", () -> {
            PackShelf x = some(RIGHT).get();
            for (int i = 0; i < 9; i++) {
                x.commit(2, -1, 100 + i);
            }
            return x;
        }, PackShelf::unpack, FULL);
    }

    /** The state of an object in parts, of which a call that is not refused may change its own alone. */
    private static void onlyItsOwnPart() {
        CHECK.sentence("Not promised", "Nothing is promised beyond the answers and state changes described above");
        changes("type", x -> x.type(5, 2), "typed");
        changes("blob", PackShelf::blob, "things typed tree");
        changes("blob that is there", PackShelf::blob, "typed", () -> {
            PackShelf x = some(RIGHT).get();
            x.blob();
            x.type(0x6669727374L, 5);
            return x;
        });
        changes("entry", x -> x.entry(9, 1), "draft tree");
        changes("tree", PackShelf::tree, "things draft tree");
        changes("commit", x -> x.commit(2, 4, 9), "things tree");
        changes("commit that is there", x -> x.commit(2, 3, 6), "");
        changes("branch", x -> x.branch(1, 4) ? 1 : 0, "branches");
        changes("branch, nothing", x -> x.branch(1, -1) ? 1 : 0, "");
        changes("pack", PackShelf::pack, "pack");
        changes("alter", x -> x.alter(9, 7) ? 1 : 0, "pack");
        changes("cut", x -> x.cut(3) ? 1 : 0, "pack");
        changes("seal", x -> x.seal() ? 1 : 0, "");
        changes("unpack", PackShelf::unpack, "things tree");
        changes("sweep", PackShelf::sweep, "things branches draft tree");
    }

    private static void changes(String what, ToIntFunction<PackShelf> call, String parts) {
        changes(what, call, parts, some(RIGHT));
    }

    private static void changes(String what, ToIntFunction<PackShelf> call, String parts, Supplier<PackShelf> maker) {
        String[] before = partsOf(maker);
        String[] after = partsOf(then(maker, call));
        for (int i = 0; i < before.length; i++) {
            String part = before[i].substring(0, before[i].indexOf(' '));
            boolean isOwn = Arrays.asList(parts.split(" ")).contains(part);
            CHECK.due(what + " changes " + part, !before[i].equals(after[i]), isOwn);
        }
    }

    /** The parts of a state; things with all that is said of each of them are one part. */
    private static String[] partsOf(Supplier<PackShelf> maker) {
        String state = State.of(maker);
        int branches = state.indexOf(" | branches");
        String[] rest = state.substring(branches + 3).split(" \\| ");
        String[] parts = new String[rest.length + 1];
        parts[0] = state.substring(0, branches);
        System.arraycopy(rest, 0, parts, 1, rest.length);
        for (int i = 0; i < parts.length; i++) {
            parts[i] += " ";
        }
        return parts;
    }

    private static void leavesAll(String what, Supplier<PackShelf> maker, ToIntFunction<PackShelf> call, int answer) {
        CHECK.due(what, call.applyAsInt(maker.get()), answer);
        CHECK.due(what + ": the state", State.of(then(maker, call)), State.of(maker));
    }

    private static Supplier<PackShelf> then(Supplier<PackShelf> maker, ToIntFunction<PackShelf> call) {
        return () -> {
            PackShelf x = maker.get();
            call.applyAsInt(x);
            return x;
        };
    }

    /** Six things, some of them reached, a draft of two entries, three bytes typed, two branches, and this pack. */
    private static Supplier<PackShelf> some(byte[] pack) {
        return () -> {
            PackShelf x = PackTool.loaded(pack);
            PackTool.blobOf(x, "first");
            PackTool.blobOf(x, "lone");
            x.entry(0, 0);
            x.tree();
            x.commit(2, -1, 5);
            x.commit(2, 3, 6);
            PackTool.blobOf(x, "lone too");
            x.branch(0, 4);
            x.branch(2, 3);
            x.entry(7, 1);
            x.entry(3, 2);
            x.type(0x616263, 3);
            return x;
        };
    }

    /** The same with ten things more, 64 bytes typed and a draft of four entries, of none of which a thing is there. */
    private static Supplier<PackShelf> full(byte[] pack) {
        return () -> {
            PackShelf x = some(pack).get();
            for (int i = 0; i < 10; i++) {
                x.commit(2, -1, 100 + i);
            }
            x.entry(11, 0);
            x.entry(12, 0);
            return typed(x, 61);
        };
    }

    private static PackShelf typed(PackShelf x, int n) {
        PackTool.typeAll(x, PackTool.mixed(50, n));
        return x;
    }
}
