import java.util.Arrays;

/** The chapters Promise 1 to Promise 22, sentence by sentence; RefusedTest sees to what refused calls leave. */
public final class PromiseTest {
    private static final Check CHECK = new Check();
    private static final int BAD = PackShelf.BAD;
    private static final int FULL = PackShelf.FULL;
    private static final int LOWEST = Integer.MIN_VALUE;
    private static final int HIGHEST = Integer.MAX_VALUE;

    public static void main(String[] args) {
        constants();
        newObject();
        newObjectBesideOthers();
        typeLowestBytes();
        typeCounts();
        typeBad();
        typeFull();
        blobComes();
        blobFull();
        blobThatIsThere();
        entryCounts();
        entryInPlace();
        entryBad();
        entryFull();
        treeComes();
        treeOfNothing();
        treeFull();
        commitComes();
        commitBad();
        commitFull();
        branchHolds();
        branchFalse();
        heldBad();
        sweepGoes();
        sweepDraft();
        sweepBranches();
        sweepCounts();
        things();
        kind();
        size();
        byteOf();
        name();
        reached();
        packAll();
        packAnew();
        packed();
        packByte();
        alter();
        cut();
        cutAll();
        seal();
        unpackCame();
        unpackStays();
        unpackBad();
        CHECK.end();
    }

    private static void constants() {
        CHECK.sentence("The public face", "BAD = -1, FULL = -2, SHORT = -3, SEAL = -4, ENDS = -5, TYPE = -6, LARGE = -7, "
                + "BASE = -8, WRAP = -9, DIFFERENCE = -10");
        int[] all = {PackShelf.BAD, PackShelf.FULL, PackShelf.SHORT, PackShelf.SEAL, PackShelf.ENDS, PackShelf.TYPE,
            PackShelf.LARGE, PackShelf.BASE, PackShelf.WRAP, PackShelf.DIFFERENCE};
        for (int i = 0; i < all.length; i++) {
            CHECK.due("constant " + i, all[i], -1 - i);
        }
    }

    private static void newObject() {
        CHECK.sentence("Promise 1", "Nothing in the store, nothing typed, no draft, no branch holds anything, no pack");
        CHECK.due("things()", new PackShelf().things(), 0);
        CHECK.due("kind(0)", new PackShelf().kind(0), BAD);
        CHECK.due("type", new PackShelf().type(1, 1), 1);
        PackShelf x = new PackShelf();
        CHECK.due("blob()", x.blob(), 0);
        CHECK.due("nothing was typed", x.size(0), 0);
        CHECK.due("entry", x.entry(0, 0), 1);
        PackShelf y = new PackShelf();
        CHECK.due("tree()", y.tree(), 0);
        CHECK.due("there was no draft", y.size(0), 0);
        for (int b = 0; b < 4; b++) {
            CHECK.due("held(" + b + ")", new PackShelf().held(b), BAD);
        }
        CHECK.due("packed()", new PackShelf().packed(), 0);
        CHECK.due("packByte(0)", new PackShelf().packByte(0), BAD);
        CHECK.due("unpack()", new PackShelf().unpack(), BAD);
        CHECK.due("sweep()", new PackShelf().sweep(), 0);
    }

    private static void newObjectBesideOthers() {
        CHECK.sentence("Promise 1", "of a new object, whatever other objects were used for");
        PackShelf x = new PackShelf();
        x.commit(x.tree(), -1, 3);
        x.branch(0, 1);
        x.pack();
        x.type(7, 3);
        x.entry(4, 0);
        CHECK.due("a new one", State.of(PackShelf::new),
                "things 0 | branches -1 -1 -1 -1 | pack  | typed  | draft | tree 0 ");
        PackShelf y = new PackShelf();
        CHECK.due("things()", y.things(), 0);
        CHECK.due("packed()", y.packed(), 0);
        CHECK.due("held(0)", y.held(0), BAD);
        CHECK.due("type", y.type(1, 1), 1);
        CHECK.due("blob()", y.blob(), 0);
        CHECK.due("the first one's things()", x.things(), 2);
        CHECK.due("the first one's typed", x.type(1, 1), 4);
        CHECK.due("the first one's kind", x.kind(0), 2);
    }

    private static void typeLowestBytes() {
        CHECK.sentence("Promise 2", "Types the lowest n bytes of bits, the highest of them first");
        long bits = 0x80FF01027F00FE81L;
        int[] bytes = {0x80, 0xFF, 0x01, 0x02, 0x7F, 0x00, 0xFE, 0x81};
        for (int n = 1; n <= 8; n++) {
            PackShelf x = new PackShelf();
            CHECK.due("type", x.type(bits, n), n);
            x.blob();
            for (int i = 0; i < n; i++) {
                CHECK.due("byte " + i + " of " + n, x.byteOf(0, i), bytes[8 - n + i]);
            }
            CHECK.due("no more", x.byteOf(0, n), BAD);
        }
    }

    private static void typeCounts() {
        CHECK.sentence("Promise 2", "how many are typed then");
        PackShelf x = new PackShelf();
        int sum = 0;
        for (int n = 1; n <= 8; n++) {
            sum += n;
            CHECK.due("type", x.type(-n, n), sum);
        }
        CHECK.due("size", x.size(x.blob()), 36);
        CHECK.due("after blob()", x.type(0, 2), 2);
    }

    private static void typeBad() {
        CHECK.sentence("Promise 2", "BAD when n is not 1 .. 8");
        for (int n : new int[] {0, 9, -1, 10, 64, 257, -8, LOWEST, HIGHEST, LOWEST + 1}) {
            CHECK.due("n of " + n, new PackShelf().type(5, n), BAD);
        }
        CHECK.due("1", new PackShelf().type(5, 1), 1);
        CHECK.due("8", new PackShelf().type(5, 8), 8);
        PackShelf x = typed(64);
        CHECK.due("0 with 64 typed", x.type(5, 0), BAD);
        CHECK.due("9 with 64 typed", x.type(5, 9), BAD);
    }

    private static void typeFull() {
        CHECK.sentence("Promise 2", "FULL when there would be more than 64");
        for (int n = 1; n <= 8; n++) {
            CHECK.due("to 64", typed(64 - n).type(5, n), 64);
            CHECK.due("to 65", typed(65 - n).type(5, n), FULL);
            CHECK.due("with 64", typed(64).type(5, n), FULL);
        }
        PackShelf x = typed(60);
        CHECK.due("too many", x.type(5, 5), FULL);
        CHECK.due("so many fit", x.type(5, 4), 64);
    }

    private static void blobComes() {
        CHECK.sentence("Promise 3", "A blob of the typed bytes comes to the store, nothing is typed then: its number");
        for (int n : new int[] {0, 1, 63, 64}) {
            PackShelf x = typed(n);
            CHECK.due("blob()", x.blob(), 0);
            CHECK.due("kind", x.kind(0), 3);
            CHECK.due("content", PackTool.contentOf(x, 0), PackTool.mixed(7, n));
            CHECK.due("nothing is typed then", x.type(1, 1), 1);
            CHECK.due("the next number", x.blob(), 1);
            CHECK.due("its size", x.size(1), 1);
        }
    }

    private static void blobFull() {
        CHECK.sentence("Promise 3", "FULL (nothing changes) when it would be the 17th thing");
        PackShelf x = blobs(15);
        x.type(200, 1);
        CHECK.due("the 16th", x.blob(), 15);
        x.type(201, 1);
        CHECK.due("the 17th", x.blob(), FULL);
        CHECK.due("it is still typed", x.type(202, 1), 2);
        CHECK.due("things()", x.things(), 16);
        CHECK.due("all go", x.sweep(), 16);
        CHECK.due("now it comes", x.blob(), 0);
        CHECK.due("content", PackTool.contentOf(x, 0), PackTool.bytes(201, 202));
    }

    private static void blobThatIsThere() {
        CHECK.sentence("Promise 3", "(One that is there already is none: its number, with 16 there, too.)");
        for (int n = 1; n <= 16; n++) {
            PackShelf x = blobs(n);
            for (int i = 0; i < n; i++) {
                x.type(i, 1);
                CHECK.due("blob()", x.blob(), i);
                CHECK.due("nothing is typed then", x.type(i, 1), 1);
                CHECK.due("blob()", x.blob(), i);
            }
            CHECK.due("things()", x.things(), n);
        }
    }

    private static void entryCounts() {
        CHECK.sentence("Promise 4", "The draft gets an entry: how many there are");
        PackShelf x = three();
        CHECK.due("a blob", x.entry(25, 0), 1);
        CHECK.due("a tree", x.entry(0, 1), 2);
        CHECK.due("the same thing again", x.entry(12, 0), 3);
        CHECK.due("the fourth", x.entry(13, 1), 4);
    }

    private static void entryInPlace() {
        CHECK.sentence("Promise 4", "in place of the one with that letter if there is one");
        PackShelf x = three();
        x.entry(3, 0);
        CHECK.due("a tree for a blob", x.entry(3, 1), 1);
        x.entry(4, 1);
        CHECK.due("a blob for a tree", x.entry(4, 0), 2);
        CHECK.due("the same", x.entry(4, 0), 2);
        x.entry(0, 0);
        x.entry(25, 0);
        CHECK.due("with four there", x.entry(25, 1), 4);
        CHECK.due("content", PackTool.contentOf(x, x.tree()), PackTool.join(PackTool.text("100644 a\0"),
                PackTool.nameOf(3, new byte[0]), PackTool.text("40000 d\0"), PackTool.nameOf(2, new byte[0]),
                PackTool.text("100644 e\0"), PackTool.nameOf(3, new byte[0]), PackTool.text("40000 z\0"),
                PackTool.nameOf(2, new byte[0])));
    }

    private static void entryBad() {
        CHECK.sentence("Promise 4", "BAD when letter is not 0 .. 25, or thing is no blob or tree");
        PackShelf x = three();
        for (int letter : new int[] {-1, 26, 97, 122, LOWEST, HIGHEST}) {
            CHECK.due("letter " + letter, x.entry(letter, 0), BAD);
        }
        for (int thing : new int[] {-1, 2, 3, 15, 16, 17, LOWEST, HIGHEST}) {
            CHECK.due("thing " + thing, x.entry(0, thing), BAD);
        }
        CHECK.due("both", x.entry(26, 2), BAD);
        CHECK.due("letter 0", x.entry(0, 0), 1);
        CHECK.due("letter 25", x.entry(25, 0), 2);
        CHECK.due("a commit in place", x.entry(25, 2), BAD);
        x.entry(1, 0);
        x.entry(2, 0);
        CHECK.due("BAD before FULL", x.entry(3, 2), BAD);
        CHECK.due("BAD before FULL", x.entry(26, 0), BAD);
    }

    private static void entryFull() {
        CHECK.sentence("Promise 4", "FULL when there would be five");
        PackShelf x = three();
        for (int i = 0; i < 4; i++) {
            CHECK.due("entry", x.entry(5 * i, 0), i + 1);
        }
        for (int letter = 0; letter < 26; letter++) {
            boolean isThere = letter % 5 == 0 && letter < 20;
            CHECK.due("letter " + letter, x.entry(letter, 1), isThere ? 4 : FULL);
        }
    }

    private static void treeComes() {
        CHECK.sentence("Promise 5", "A tree of the draft comes to the store, there is no draft then: its number");
        PackShelf x = three();
        x.entry(6, 0);
        CHECK.due("tree()", x.tree(), 3);
        CHECK.due("kind", x.kind(3), 2);
        CHECK.due("content", PackTool.contentOf(x, 3),
                PackTool.join(PackTool.text("100644 g\0"), PackTool.nameOf(3, new byte[0])));
        CHECK.due("there is no draft", x.entry(1, 0), 1);
        x.entry(2, 0);
        CHECK.due("the next one", x.tree(), 4);
        CHECK.due("of two entries", x.size(4), 58);
        x.entry(6, 0);
        CHECK.due("one that is there", x.tree(), 3);
        CHECK.due("there is no draft", x.entry(1, 0), 1);
        // Read from a pack, a tree comes before its blob and may have the number 0.
        x.sweep();
        x.entry(6, x.blob());
        x.tree();
        x.pack();
        x.sweep();
        CHECK.due("unpack()", x.unpack(), 2);
        x.entry(6, 1);
        CHECK.due("one that is there", x.tree(), 0);
        CHECK.due("there is no draft", x.entry(1, 1), 1);
    }

    private static void treeOfNothing() {
        CHECK.sentence("Promise 5", "(Also of no entries: a tree of no bytes.)");
        PackShelf x = new PackShelf();
        CHECK.due("tree()", x.tree(), 0);
        CHECK.due("kind", x.kind(0), 2);
        CHECK.due("size", x.size(0), 0);
        CHECK.due("again", x.tree(), 0);
        CHECK.due("an empty blob is another one", x.blob(), 1);
        CHECK.due("it can be an entry", x.entry(0, 0), 1);
    }

    private static void treeFull() {
        CHECK.sentence("Promise 5", "FULL likewise");
        PackShelf x = blobs(15);
        x.entry(1, 0);
        CHECK.due("the 16th", x.tree(), 15);
        x.entry(1, 0);
        x.entry(2, 3);
        CHECK.due("the 17th", x.tree(), FULL);
        CHECK.due("the draft stays", x.entry(2, 0), 2);
        CHECK.due("the 17th", x.tree(), FULL);
        PackShelf y = blobs(15);
        y.entry(1, 0);
        y.tree();
        y.entry(1, 0);
        CHECK.due("one that is there, with 16", y.tree(), 15);
        CHECK.due("there is no draft", y.entry(4, 0), 1);
        CHECK.due("things()", y.things(), 16);
    }

    private static void commitComes() {
        CHECK.sentence("Promise 6", "A commit comes to the store: its number");
        PackShelf x = three();
        CHECK.due("another time", x.commit(1, -1, 1), 3);
        CHECK.due("time 0, a parent", x.commit(1, 2, 0), 4);
        CHECK.due("the highest time", x.commit(1, 4, HIGHEST), 5);
        CHECK.due("one that is there", x.commit(1, -1, 1), 3);
        CHECK.due("kind", x.kind(5), 1);
        CHECK.due("size", x.size(5), 68);
        CHECK.due("size without a parent", x.size(3), 31);
    }

    private static void commitBad() {
        CHECK.sentence("Promise 6", "BAD when tree is no tree, parent no commit and not -1, or time below 0");
        PackShelf x = three();
        for (int tree : new int[] {-1, 0, 2, 3, 16, LOWEST, HIGHEST}) {
            CHECK.due("tree " + tree, x.commit(tree, -1, 5), BAD);
        }
        for (int parent : new int[] {-2, 0, 1, 3, 16, LOWEST, HIGHEST}) {
            CHECK.due("parent " + parent, x.commit(1, parent, 5), BAD);
        }
        for (int time : new int[] {-1, -2, LOWEST}) {
            CHECK.due("time " + time, x.commit(1, -1, time), BAD);
            CHECK.due("time " + time + " with a parent", x.commit(1, 2, time), BAD);
        }
        CHECK.due("things()", x.things(), 3);
    }

    private static void commitFull() {
        CHECK.sentence("Promise 6", "FULL likewise");
        PackShelf x = blobs(14);
        int tree = x.tree();
        CHECK.due("the 16th", x.commit(tree, -1, 1), 15);
        CHECK.due("the 17th", x.commit(tree, -1, 2), FULL);
        CHECK.due("the 17th, with a parent", x.commit(tree, 15, 1), FULL);
        CHECK.due("one that is there, with 16", x.commit(tree, -1, 1), 15);
        CHECK.due("BAD before FULL", x.commit(tree, -1, -2), BAD);
        CHECK.due("things()", x.things(), 16);
    }

    private static void branchHolds() {
        CHECK.sentence("Promise 7", "A branch (0 .. 3) holds a commit from now on, or nothing (-1): true");
        PackShelf x = three();
        x.commit(1, 2, 1);
        for (int b = 0; b < 4; b++) {
            CHECK.due("branch", x.branch(b, 2), true);
            CHECK.due("held", x.held(b), 2);
            CHECK.due("another one", x.branch(b, 3), true);
            CHECK.due("held", x.held(b), 3);
            CHECK.due("the others", x.held((b + 1) % 4), BAD);
            CHECK.due("nothing", x.branch(b, -1), true);
            CHECK.due("held", x.held(b), BAD);
            CHECK.due("nothing again", x.branch(b, -1), true);
        }
    }

    private static void branchFalse() {
        CHECK.sentence("Promise 7", "false when there is no such branch, or thing is neither a commit nor -1");
        PackShelf x = three();
        for (int b : new int[] {-1, 4, 5, LOWEST, HIGHEST}) {
            CHECK.due("branch " + b, x.branch(b, 2), false);
            CHECK.due("branch " + b + " and nothing", x.branch(b, -1), false);
        }
        x.branch(1, 2);
        for (int thing : new int[] {-2, 0, 1, 3, 16, LOWEST, HIGHEST}) {
            CHECK.due("thing " + thing, x.branch(1, thing), false);
            CHECK.due("still held", x.held(1), 2);
            CHECK.due("thing " + thing, x.branch(0, thing), false);
            CHECK.due("still none held", x.held(0), BAD);
        }
    }

    private static void heldBad() {
        CHECK.sentence("Promise 8", "BAD when it holds nothing, or there is no such branch");
        PackShelf x = three();
        for (int b = 0; b < 4; b++) {
            CHECK.due("none held", x.held(b), BAD);
            x.branch(b, 2);
            CHECK.due("held", x.held(b), 2);
        }
        for (int b : new int[] {-1, 4, 5, LOWEST, HIGHEST}) {
            CHECK.due("branch " + b, x.held(b), BAD);
        }
        x.branch(2, -1);
        CHECK.due("no longer", x.held(2), BAD);
        // A commit may have the number 0.
        PackShelf y = PackTool.loaded(PackTool.pack(PackTool.whole(1, "c")));
        y.unpack();
        CHECK.due("branch", y.branch(3, 0), true);
        CHECK.due("held", y.held(3), 0);
    }

    private static void sweepGoes() {
        CHECK.sentence("Promise 9", "Things that are not reached go, the others keep their order and are numbered anew");
        PackShelf x = swept();
        CHECK.due("sweep()", x.sweep(), 4);
        int[] kinds = {3, 2, 1, 3, 2, 1, BAD};
        for (int i = 0; i < kinds.length; i++) {
            CHECK.due("kind(" + i + ")", x.kind(i), kinds[i]);
        }
        CHECK.due("content 0", PackTool.contentOf(x, 0), PackTool.text("kept"));
        CHECK.due("content 3", PackTool.contentOf(x, 3), PackTool.text("kept too"));
        CHECK.due("name 3", PackTool.nameOf(x, 3), PackTool.nameOf(3, PackTool.text("kept too")));
        CHECK.due("the next number", PackTool.blobOf(x, "gone"), 6);
        CHECK.due("one that was kept", PackTool.blobOf(x, "kept too"), 3);
    }

    private static void sweepDraft() {
        CHECK.sentence("Promise 9", "there is no draft then");
        PackShelf x = swept();
        x.entry(5, 1);
        x.entry(6, 1);
        x.sweep();
        CHECK.due("some went", x.entry(7, 0), 1);
        CHECK.due("none goes", x.sweep(), 0);
        CHECK.due("none went", x.entry(8, 0), 1);
        CHECK.due("size of its tree", x.size(x.tree()), 29);
    }

    private static void sweepBranches() {
        CHECK.sentence("Promise 9", "(Branches hold the same commits by their new numbers.)");
        PackShelf x = swept();
        x.branch(3, 9);
        CHECK.due("held before", x.held(1), 4);
        CHECK.due("held before", x.held(3), 9);
        byte[] first = PackTool.nameOf(x, 4);
        byte[] second = PackTool.nameOf(x, 9);
        x.sweep();
        CHECK.due("branch 0", x.held(0), 5);
        CHECK.due("branch 1", x.held(1), 2);
        CHECK.due("branch 2", x.held(2), BAD);
        CHECK.due("branch 3", x.held(3), 5);
        CHECK.due("name", PackTool.nameOf(x, x.held(1)), first);
        CHECK.due("name", PackTool.nameOf(x, x.held(3)), second);
    }

    /** Sixteen, all, some and none. */
    private static void sweepCounts() {
        CHECK.sentence("Promise 9", "How many went");
        CHECK.due("of none", new PackShelf().sweep(), 0);
        for (int n : new int[] {1, 2, 15, 16}) {
            PackShelf x = blobs(n);
            CHECK.due("all of " + n, x.sweep(), n);
            CHECK.due("things()", x.things(), 0);
            CHECK.due("again", x.sweep(), 0);
        }
        PackShelf x = blobs(14);
        int commit = x.commit(x.tree(), -1, 0);
        x.branch(2, commit);
        CHECK.due("all but two", x.sweep(), 14);
        CHECK.due("held", x.held(2), 1);
    }

    private static void things() {
        CHECK.sentence("Promise 10", "How many things are in the store");
        for (int n = 0; n <= 16; n++) {
            CHECK.due("things()", blobs(n).things(), n);
        }
        PackShelf x = three();
        CHECK.due("of each kind", x.things(), 3);
        x.tree();
        CHECK.due("one that is there", x.things(), 3);
        x.sweep();
        CHECK.due("swept", x.things(), 0);
    }

    private static void kind() {
        CHECK.sentence("Promise 11", "The kind of a thing; BAD when there is none such");
        PackShelf x = three();
        CHECK.due("a blob", x.kind(0), 3);
        CHECK.due("a tree", x.kind(1), 2);
        CHECK.due("a commit", x.kind(2), 1);
        for (int thing : new int[] {-1, 3, 4, 15, 16, LOWEST, HIGHEST}) {
            CHECK.due("thing " + thing, x.kind(thing), BAD);
        }
        x.sweep();
        CHECK.due("swept", x.kind(0), BAD);
        CHECK.due("the 16th", blobs(16).kind(15), 3);
        CHECK.due("the 17th", blobs(16).kind(16), BAD);
    }

    private static void size() {
        CHECK.sentence("Promise 12", "How many bytes its content has; BAD likewise");
        PackShelf x = three();
        CHECK.due("a blob", x.size(0), 0);
        CHECK.due("a tree", x.size(1), 0);
        CHECK.due("a commit", x.size(2), 31);
        for (int thing : new int[] {-1, 3, 4, 15, 16, LOWEST, HIGHEST}) {
            CHECK.due("thing " + thing, x.size(thing), BAD);
        }
        x.sweep();
        CHECK.due("swept", x.size(2), BAD);
        CHECK.due("the 16th", blobs(16).size(15), 1);
        CHECK.due("the 17th", blobs(16).size(16), BAD);
    }

    private static void byteOf() {
        CHECK.sentence("Promise 13", "Byte i of its content (0 .. 255); BAD when there is none");
        PackShelf x = new PackShelf();
        PackTool.blobOf(x, PackTool.bytes(0, 1, 127, 128, 254, 255));
        int[] want = {0, 1, 127, 128, 254, 255};
        for (int i = 0; i < want.length; i++) {
            CHECK.due("byte " + i, x.byteOf(0, i), want[i]);
        }
        for (int i : new int[] {-1, 6, 7, 119, 120, 121, LOWEST, HIGHEST}) {
            CHECK.due("byte " + i, x.byteOf(0, i), BAD);
        }
        for (int thing : new int[] {-1, 1, 15, 16, LOWEST, HIGHEST}) {
            CHECK.due("thing " + thing, x.byteOf(thing, 0), BAD);
        }
        x.blob();
        CHECK.due("of no bytes", x.byteOf(1, 0), BAD);
        x.sweep();
        CHECK.due("swept", x.byteOf(0, 0), BAD);
        // A shorter content that takes the place of a longer one has none of its bytes.
        PackTool.blobOf(x, "ab");
        CHECK.due("byte 1", x.byteOf(0, 1), 'b');
        CHECK.due("byte 2", x.byteOf(0, 2), BAD);
    }

    private static void name() {
        CHECK.sentence("Promise 14", "Int k (0 .. 4) of its name; 0 when there is none such");
        PackShelf x = new PackShelf();
        x.blob();
        int[] want = {0xe69de29b, 0xb2d1d643, 0x4b8b29ae, 0x775ad8c2, 0xe48c5391};
        for (int k = 0; k < 5; k++) {
            CHECK.due("int " + k, x.name(0, k), want[k]);
        }
        for (int k : new int[] {-1, 5, 6, LOWEST, HIGHEST}) {
            CHECK.due("int " + k, x.name(0, k), 0);
        }
        for (int thing : new int[] {-1, 1, 15, 16, LOWEST, HIGHEST}) {
            CHECK.due("thing " + thing, x.name(thing, 0), 0);
        }
        x.sweep();
        CHECK.due("swept", x.name(0, 0), 0);
    }

    private static void reached() {
        CHECK.sentence("Promise 15", "Whether a thing is reached; false when there is none such");
        PackShelf x = three();
        for (int thing = 0; thing < 3; thing++) {
            CHECK.due("thing " + thing, x.reached(thing), false);
        }
        x.branch(0, 2);
        CHECK.due("the blob", x.reached(0), false);
        CHECK.due("the tree", x.reached(1), true);
        CHECK.due("the commit", x.reached(2), true);
        for (int thing : new int[] {-1, 3, 4, 15, 16, LOWEST, HIGHEST}) {
            CHECK.due("thing " + thing, x.reached(thing), false);
        }
        x.sweep();
        CHECK.due("none such after sweep()", x.reached(2), false);
    }

    private static void packAll() {
        CHECK.sentence("Promise 16", "Writes the pack of all things: how many bytes it has");
        CHECK.due("of none", new PackShelf().pack(), 32);
        for (int n = 1; n <= 16; n++) {
            CHECK.due("of " + n, blobs(n).pack(), 32 + 13 * n);
        }
        PackShelf x = three();
        CHECK.due("also of what is not reached", x.pack(), 32 + (2 + 11 + 31) + 12 + 12);
        CHECK.due("packed()", x.packed(), 100);
        CHECK.due("all are there", x.unpack(), 0);
        CHECK.due("all go", x.sweep(), 3);
        CHECK.due("all come", x.unpack(), 3);
    }

    private static void packAnew() {
        CHECK.sentence("Promise 16", "Writes the pack, in place of any other");
        PackShelf x = blobs(3);
        x.pack();
        x.alter(0, 7);
        x.alter(70, 7);
        CHECK.due("again", x.pack(), 71);
        CHECK.due("the pack", PackTool.packOf(x), PackTool.pack(PackTool.whole(3, "\0"), PackTool.whole(3, "\1"),
                PackTool.whole(3, "\2")));
        x.sweep();
        CHECK.due("a shorter one", x.pack(), 32);
        CHECK.due("the pack", PackTool.packOf(x), PackTool.pack());
        x.cut(32);
        CHECK.due("after there was none", x.pack(), 32);
    }

    private static void packed() {
        CHECK.sentence("Promise 17", "How many bytes the pack has; 0 when there is none");
        PackShelf x = blobs(2);
        CHECK.due("none yet", x.packed(), 0);
        x.pack();
        CHECK.due("packed()", x.packed(), 58);
        x.sweep();
        CHECK.due("as it was", x.packed(), 58);
        x.cut(57);
        CHECK.due("packed()", x.packed(), 1);
        x.cut(1);
        CHECK.due("none", x.packed(), 0);
    }

    private static void packByte() {
        CHECK.sentence("Promise 18", "Byte i of the pack (0 .. 255); BAD when there is none");
        PackShelf x = new PackShelf();
        for (int i : new int[] {-1, 0, 1, LOWEST, HIGHEST}) {
            CHECK.due("no pack, byte " + i, x.packByte(i), BAD);
        }
        PackTool.blobOf(x, PackTool.bytes(0, 127, 128, 255));
        x.pack();
        byte[] want = PackTool.pack(PackTool.whole(3, PackTool.bytes(0, 127, 128, 255)));
        for (int i = 0; i < want.length; i++) {
            CHECK.due("byte " + i, x.packByte(i), want[i] & 255);
        }
        for (int i : new int[] {-1, want.length, want.length + 1, 4000, LOWEST, HIGHEST}) {
            CHECK.due("byte " + i, x.packByte(i), BAD);
        }
        x.cut(1);
        CHECK.due("cut off", x.packByte(want.length - 1), BAD);
    }

    private static void alter() {
        CHECK.sentence("Promise 19", "Byte i of the pack becomes v: true; false when there is none, or v is not 0 .. 255");
        CHECK.due("no pack", new PackShelf().alter(0, 0), false);
        PackShelf x = new PackShelf();
        x.pack();
        for (int i : new int[] {0, 31}) {
            for (int v : new int[] {0, 1, 127, 128, 255}) {
                CHECK.due("alter(" + i + ", " + v + ")", x.alter(i, v), true);
                CHECK.due("packByte(" + i + ")", x.packByte(i), v);
            }
            for (int v : new int[] {-1, 256, 257, -256, LOWEST, HIGHEST}) {
                CHECK.due("alter(" + i + ", " + v + ")", x.alter(i, v), false);
                CHECK.due("as it was", x.packByte(i), 255);
            }
        }
        for (int i : new int[] {-1, 32, 33, 4000, LOWEST, HIGHEST}) {
            CHECK.due("byte " + i, x.alter(i, 0), false);
        }
        CHECK.due("packed()", x.packed(), 32);
        CHECK.due("the byte beside", x.packByte(1), 65);
        x.cut(1);
        CHECK.due("cut off", x.alter(31, 0), false);
    }

    private static void cut() {
        CHECK.sentence("Promise 20", "The last n bytes of the pack go: true; false when n is not from 1 to as many as there are");
        CHECK.due("no pack, 1", new PackShelf().cut(1), false);
        CHECK.due("no pack, 0", new PackShelf().cut(0), false);
        PackShelf x = new PackShelf();
        x.pack();
        for (int n : new int[] {0, -1, 33, 34, LOWEST, HIGHEST}) {
            CHECK.due("cut(" + n + ")", x.cut(n), false);
            CHECK.due("packed()", x.packed(), 32);
        }
        CHECK.due("1", x.cut(1), true);
        CHECK.due("packed()", x.packed(), 31);
        CHECK.due("10", x.cut(10), true);
        CHECK.due("the rest", PackTool.packOf(x), Arrays.copyOf(PackTool.pack(), 21));
        CHECK.due("one too many", x.cut(22), false);
        CHECK.due("packed()", x.packed(), 21);
    }

    private static void cutAll() {
        CHECK.sentence("Promise 20", "(Of no bytes there is no pack.)");
        PackShelf x = new PackShelf();
        x.pack();
        CHECK.due("all", x.cut(32), true);
        CHECK.due("packed()", x.packed(), 0);
        CHECK.due("packByte(0)", x.packByte(0), BAD);
        CHECK.due("alter(0, 0)", x.alter(0, 0), false);
        CHECK.due("cut(1)", x.cut(1), false);
        CHECK.due("seal()", x.seal(), false);
        CHECK.due("unpack()", x.unpack(), BAD);
        PackShelf y = new PackShelf();
        y.pack();
        y.cut(31);
        CHECK.due("of one byte there is one", y.unpack(), PackShelf.SHORT);
    }

    private static void seal() {
        CHECK.sentence("Promise 21", "The last 20 bytes of the pack become the sum of those before them: true; "
                + "false when there are fewer than 20");
        CHECK.due("no pack", new PackShelf().seal(), false);
        for (int n = 1; n <= 32; n++) {
            PackShelf x = new PackShelf();
            x.pack();
            x.alter(n / 2, 77);
            if (n < 32) {
                x.cut(32 - n);
            }
            byte[] before = PackTool.packOf(x);
            CHECK.due("seal() of " + n, x.seal(), n >= 20);
            CHECK.due("the pack of " + n, PackTool.packOf(x),
                    n < 20 ? before : PackTool.sealed(Arrays.copyOf(before, n - 20)));
        }
    }

    private static void unpackCame() {
        CHECK.sentence("Promise 22", "Reads the pack into the store: how many things came that were not there; or what is wrong");
        PackShelf x = new PackShelf();
        x.pack();
        CHECK.due("of none", x.unpack(), 0);
        PackShelf y = three();
        y.pack();
        CHECK.due("all there", y.unpack(), 0);
        CHECK.due("things()", y.things(), 3);
        y.branch(0, 2);
        y.sweep();
        CHECK.due("one was gone", y.unpack(), 1);
        CHECK.due("it is the last now", y.kind(2), 3);
        y.branch(0, -1);
        y.sweep();
        CHECK.due("all were gone", y.unpack(), 3);
        y.alter(99, y.packByte(99) ^ 1);
        CHECK.due("what is wrong", y.unpack(), PackShelf.SEAL);
    }

    private static void unpackStays() {
        CHECK.sentence("Promise 22", "(The pack, the draft and what is typed stay.)");
        PackShelf x = three();
        x.pack();
        byte[] pack = PackTool.packOf(x);
        x.branch(0, 2);
        x.sweep();
        x.entry(9, 0);
        x.type(0x4142, 2);
        CHECK.due("unpack()", x.unpack(), 1);
        CHECK.due("the pack", PackTool.packOf(x), pack);
        CHECK.due("what is typed", x.type(0x43, 1), 3);
        CHECK.due("the draft", x.entry(8, 0), 2);
        CHECK.due("the branch", x.held(0), 1);
        CHECK.due("what was typed", PackTool.contentOf(x, x.blob()), PackTool.text("ABC"));
        CHECK.due("the tree", x.size(x.tree()), 56);
    }

    private static void unpackBad() {
        CHECK.sentence("Promise 22", "BAD when there is no pack");
        CHECK.due("a new object", new PackShelf().unpack(), BAD);
        CHECK.due("things alone", three().unpack(), BAD);
        PackShelf x = three();
        x.cut(x.pack());
        CHECK.due("all cut", x.unpack(), BAD);
    }

    /** An empty blob, an empty tree and a commit, numbers 0, 1 and 2. */
    private static PackShelf three() {
        PackShelf x = new PackShelf();
        CHECK.due("blob()", x.blob(), 0);
        CHECK.due("tree()", x.tree(), 1);
        CHECK.due("commit()", x.commit(1, -1, 0), 2);
        return x;
    }

    private static PackShelf typed(int n) {
        PackShelf x = new PackShelf();
        PackTool.typeAll(x, PackTool.mixed(7, n));
        return x;
    }

    private static PackShelf blobs(int n) {
        PackShelf x = new PackShelf();
        for (int i = 0; i < n; i++) {
            x.type(i, 1);
            x.blob();
        }
        return x;
    }

    /** Ten things; 1, 2 and 4, and 6, 8 and 9 are reached, from branch 1 and branch 0. */
    private static PackShelf swept() {
        PackShelf x = new PackShelf();
        PackTool.blobOf(x, "gone");
        x.entry(0, PackTool.blobOf(x, "kept"));
        int tree = x.tree();
        PackTool.blobOf(x, "gone 3");
        x.branch(1, x.commit(tree, -1, 1));
        PackTool.blobOf(x, "gone 5");
        x.entry(1, PackTool.blobOf(x, "kept too"));
        x.commit(tree, -1, 2);
        int second = x.tree();
        x.branch(0, x.commit(second, 4, 3));
        return x;
    }
}
