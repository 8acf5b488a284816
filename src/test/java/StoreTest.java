import java.util.HexFormat;

/** Promises 1 to 15: things, names, draft, branches, sweeping. */
public final class StoreTest {
    private static final Check CHECK = new Check();
    private static final String EMPTY_BLOB = "e69de29bb2d1d6434b8b29ae775ad8c2e48c5391";
    private static final String EMPTY_TREE = "4b825dc642cb6eb9a060e54bf8d69288fbee4904";
    private static final String HELLO = "3b18e512dba79e4c8300dd08aeb37f8e728b8dad";

    public static void main(String[] args) {
        newObject();
        type();
        typeFull();
        blob();
        blobTwice();
        blobFull();
        names();
        entryWrong();
        entryPlaces();
        tree();
        treeWithTree();
        treeThatIsFirst();
        treeFull();
        commit();
        commitTimes();
        commitWrong();
        commitFull();
        branch();
        reached();
        reachedAnywhere();
        reachedFull();
        sweepNumbers();
        sweepLeaves();
        noneSuch();
        CHECK.end();
    }

    private static void newObject() {
        CHECK.part("promise 1");
        PackShelf x = new PackShelf();
        CHECK.due("things()", x.things(), 0);
        CHECK.due("packed()", x.packed(), 0);
        CHECK.due("packByte(0)", x.packByte(0), PackShelf.BAD);
        CHECK.due("unpack()", x.unpack(), PackShelf.BAD);
        CHECK.due("seal()", x.seal(), false);
        CHECK.due("cut(1)", x.cut(1), false);
        CHECK.due("alter(0, 0)", x.alter(0, 0), false);
        for (int b = 0; b < 4; b++) {
            CHECK.due("held", x.held(b), PackShelf.BAD);
        }
        CHECK.due("kind(0)", x.kind(0), PackShelf.BAD);
        CHECK.due("sweep()", x.sweep(), 0);
        CHECK.due("tree() of no draft", x.tree(), 0);
        CHECK.due("its size", x.size(0), 0);
        CHECK.due("type first", x.type(7, 1), 1);
    }

    private static void type() {
        CHECK.part("promise 2");
        PackShelf x = new PackShelf();
        CHECK.due("n 0", x.type(1, 0), PackShelf.BAD);
        CHECK.due("n 9", x.type(1, 9), PackShelf.BAD);
        CHECK.due("n -1", x.type(1, -1), PackShelf.BAD);
        CHECK.due("n lowest", x.type(1, Integer.MIN_VALUE), PackShelf.BAD);
        CHECK.due("n highest", x.type(1, Integer.MAX_VALUE), PackShelf.BAD);
        CHECK.due("three", x.type(0x1122334455667788L, 3), 3);
        CHECK.due("eight", x.type(0x8122334455667788L, 8), 11);
        CHECK.due("one", x.type(-1L, 1), 12);
        CHECK.due("blob()", x.blob(), 0);
        int[] want = {0x66, 0x77, 0x88, 0x81, 0x22, 0x33, 0x44, 0x55, 0x66, 0x77, 0x88, 255};
        for (int i = 0; i < want.length; i++) {
            CHECK.due("byte " + i, x.byteOf(0, i), want[i]);
        }
        CHECK.due("nothing is typed", x.type(5, 1), 1);
    }

    private static void typeFull() {
        CHECK.part("promise 2, full");
        PackShelf x = new PackShelf();
        for (int i = 1; i <= 7; i++) {
            CHECK.due("type", x.type(i, 8), 8 * i);
        }
        CHECK.due("seven", x.type(3, 7), 63);
        CHECK.due("65", x.type(3, 2), PackShelf.FULL);
        CHECK.due("wrong before full", x.type(3, 0), PackShelf.BAD);
        CHECK.due("wrong before full", x.type(3, 9), PackShelf.BAD);
        CHECK.due("64", x.type(3, 1), 64);
        CHECK.due("65", x.type(3, 1), PackShelf.FULL);
        CHECK.due("blob()", x.blob(), 0);
        CHECK.due("size", x.size(0), 64);
    }

    private static void blob() {
        CHECK.part("promise 3");
        PackShelf x = new PackShelf();
        CHECK.due("of nothing", x.blob(), 0);
        named(x, 0, EMPTY_BLOB);
        CHECK.due("hello", PackTool.blobOf(x, "hello world\n"), 1);
        named(x, 1, HELLO);
        CHECK.due("kind", x.kind(1), 3);
        CHECK.due("size", x.size(1), 12);
        CHECK.due("things()", x.things(), 2);
    }

    private static void blobTwice() {
        CHECK.part("promise 3, twice");
        PackShelf x = new PackShelf();
        CHECK.due("a", PackTool.blobOf(x, "a"), 0);
        CHECK.due("b", PackTool.blobOf(x, "b"), 1);
        CHECK.due("a again", PackTool.blobOf(x, "a"), 0);
        CHECK.due("nothing is typed", x.type(5, 1), 1);
        CHECK.due("things()", x.things(), 2);
    }

    private static void blobFull() {
        CHECK.part("promise 3, full");
        PackShelf x = full();
        x.type('z', 1);
        CHECK.due("17th", x.blob(), PackShelf.FULL);
        CHECK.due("still typed", x.type('y', 1), 2);
        CHECK.due("17th", x.blob(), PackShelf.FULL);
        CHECK.due("things()", x.things(), 16);
        PackShelf y = full();
        CHECK.due("one that is there", PackTool.blobOf(y, new byte[] {15}), 15);
        CHECK.due("one that is there", PackTool.blobOf(y, new byte[] {0}), 0);
        CHECK.due("nothing is typed", y.type(1, 1), 1);
    }

    /** Contents of all lengths that can be typed, over the edges of the sum's 64 bytes. */
    private static void names() {
        CHECK.part("names");
        for (int n = 0; n <= 64; n++) {
            PackShelf x = new PackShelf();
            byte[] row = new byte[n];
            for (int i = 0; i < n; i++) {
                row[i] = (byte) (251 * i + n);
            }
            CHECK.due("blob()", PackTool.blobOf(x, row), 0);
            named(x, 0, hexName("blob", row));
        }
    }

    private static void entryWrong() {
        CHECK.part("promise 4, wrong");
        PackShelf x = new PackShelf();
        CHECK.due("none such", x.entry(0, 0), PackShelf.BAD);
        x.blob();
        x.tree();
        x.commit(1, -1, 0);
        CHECK.due("letter -1", x.entry(-1, 0), PackShelf.BAD);
        CHECK.due("letter 26", x.entry(26, 0), PackShelf.BAD);
        CHECK.due("a commit", x.entry(0, 2), PackShelf.BAD);
        CHECK.due("thing -1", x.entry(0, -1), PackShelf.BAD);
        CHECK.due("thing 3", x.entry(0, 3), PackShelf.BAD);
        CHECK.due("thing 16", x.entry(0, 16), PackShelf.BAD);
        CHECK.due("thing highest", x.entry(0, Integer.MAX_VALUE), PackShelf.BAD);
        CHECK.due("a blob", x.entry(0, 0), 1);
        CHECK.due("a tree", x.entry(25, 1), 2);
    }

    private static void entryPlaces() {
        CHECK.part("promise 4, full");
        PackShelf x = new PackShelf();
        x.blob();
        PackTool.blobOf(x, "q");
        CHECK.due("1", x.entry(3, 0), 1);
        CHECK.due("same letter", x.entry(3, 1), 1);
        CHECK.due("2", x.entry(1, 0), 2);
        CHECK.due("3", x.entry(25, 0), 3);
        CHECK.due("4", x.entry(0, 0), 4);
        CHECK.due("5", x.entry(2, 0), PackShelf.FULL);
        CHECK.due("wrong before full", x.entry(26, 0), PackShelf.BAD);
        CHECK.due("wrong before full", x.entry(2, 2), PackShelf.BAD);
        CHECK.due("in place", x.entry(25, 1), 4);
        CHECK.due("tree()", x.tree(), 2);
        byte[] want = PackTool.join(file('a', EMPTY_BLOB), file('b', EMPTY_BLOB),
                file('d', hexName("blob", PackTool.text("q"))), file('z', hexName("blob", PackTool.text("q"))));
        holds(x, 2, want);
        named(x, 2, hexName("tree", want));
    }

    private static void tree() {
        CHECK.part("promise 5");
        PackShelf x = new PackShelf();
        CHECK.due("of no entries", x.tree(), 0);
        named(x, 0, EMPTY_TREE);
        CHECK.due("kind", x.kind(0), 2);
        CHECK.due("size", x.size(0), 0);
        x.blob();
        x.entry(7, 1);
        CHECK.due("tree()", x.tree(), 2);
        holds(x, 2, file('h', EMPTY_BLOB));
        CHECK.due("there is no draft", x.tree(), 0);
        CHECK.due("there is no draft", x.entry(9, 1), 1);
        x.entry(7, 1);
        x.entry(7, 1);
        CHECK.due("two entries", x.tree(), 3);
        x.entry(7, 1);
        CHECK.due("one that is there", x.tree(), 2);
        CHECK.due("there is no draft", x.entry(9, 1), 1);
    }

    private static void treeWithTree() {
        CHECK.part("promise 5, tree in tree");
        PackShelf x = new PackShelf();
        x.tree();
        x.blob();
        x.entry(1, 0);
        x.entry(0, 1);
        CHECK.due("tree()", x.tree(), 2);
        byte[] want = PackTool.join(file('a', EMPTY_BLOB), folder('b', EMPTY_TREE));
        holds(x, 2, want);
        named(x, 2, hexName("tree", want));
        CHECK.due("size", x.size(2), 57);
    }

    /** Read from a pack, a tree stands before its blob and may have the number 0. */
    private static void treeThatIsFirst() {
        CHECK.part("promise 5, number 0");
        PackShelf x = new PackShelf();
        x.entry(0, x.blob());
        x.tree();
        x.pack();
        x.sweep();
        CHECK.due("unpack()", x.unpack(), 2);
        CHECK.due("a blob", x.entry(0, 1), 1);
        CHECK.due("one that is there", x.tree(), 0);
        CHECK.due("there is no draft", x.entry(1, 1), 1);
    }

    private static void treeFull() {
        CHECK.part("promise 5, full");
        PackShelf x = full();
        x.entry(0, 0);
        CHECK.due("17th", x.tree(), PackShelf.FULL);
        CHECK.due("the draft stays", x.entry(1, 0), 2);
        PackShelf y = new PackShelf();
        y.tree();
        for (int i = 0; i < 15; i++) {
            PackTool.blobOf(y, new byte[] {(byte) i});
        }
        CHECK.due("one that is there", y.tree(), 0);
        y.entry(0, 0);
        CHECK.due("17th", y.tree(), PackShelf.FULL);
    }

    private static void commit() {
        CHECK.part("promise 6");
        PackShelf x = new PackShelf();
        x.tree();
        CHECK.due("commit", x.commit(0, -1, 7), 1);
        byte[] first = PackTool.join(PackTool.text("tree "), hex(EMPTY_TREE), PackTool.text("\nat 7\n"));
        holds(x, 1, first);
        named(x, 1, hexName("commit", first));
        CHECK.due("kind", x.kind(1), 1);
        CHECK.due("with a parent", x.commit(0, 1, 2147483647), 2);
        byte[] second = PackTool.join(PackTool.text("tree "), hex(EMPTY_TREE), PackTool.text("\nparent "),
                hex(hexName("commit", first)), PackTool.text("\nat 2147483647\n"));
        holds(x, 2, second);
        named(x, 2, hexName("commit", second));
        CHECK.due("size", x.size(2), 68);
        CHECK.due("one that is there", x.commit(0, -1, 7), 1);
        CHECK.due("things()", x.things(), 3);
    }

    private static void commitTimes() {
        CHECK.part("promise 6, times");
        int[] times = {0, 1, 9, 10, 11, 99, 100, 101, 1000, 70000, 1000000000, 999999999, 1999999999, 2000000000};
        for (int time : times) {
            PackShelf x = new PackShelf();
            x.tree();
            CHECK.due("commit", x.commit(0, -1, time), 1);
            holds(x, 1, PackTool.join(PackTool.text("tree "), hex(EMPTY_TREE), PackTool.text("\nat " + time + "\n")));
        }
    }

    private static void commitWrong() {
        CHECK.part("promise 6, wrong");
        PackShelf x = new PackShelf();
        x.tree();
        x.blob();
        x.commit(0, -1, 0);
        CHECK.due("tree -1", x.commit(-1, -1, 0), PackShelf.BAD);
        CHECK.due("tree 3", x.commit(3, -1, 0), PackShelf.BAD);
        CHECK.due("a blob", x.commit(1, -1, 0), PackShelf.BAD);
        CHECK.due("a commit", x.commit(2, -1, 0), PackShelf.BAD);
        CHECK.due("parent -2", x.commit(0, -2, 0), PackShelf.BAD);
        CHECK.due("parent is a tree", x.commit(0, 0, 0), PackShelf.BAD);
        CHECK.due("parent is a blob", x.commit(0, 1, 0), PackShelf.BAD);
        CHECK.due("parent 3", x.commit(0, 3, 0), PackShelf.BAD);
        CHECK.due("time -1", x.commit(0, -1, -1), PackShelf.BAD);
        CHECK.due("time lowest", x.commit(0, 2, Integer.MIN_VALUE), PackShelf.BAD);
        CHECK.due("things()", x.things(), 3);
    }

    private static void commitFull() {
        CHECK.part("promise 6, full");
        PackShelf x = new PackShelf();
        x.tree();
        for (int i = 0; i < 15; i++) {
            CHECK.due("commit", x.commit(0, i == 0 ? -1 : i, i), i + 1);
        }
        CHECK.due("17th", x.commit(0, -1, 77), PackShelf.FULL);
        CHECK.due("one that is there", x.commit(0, 4, 4), 5);
        CHECK.due("wrong before full", x.commit(1, -1, 77), PackShelf.BAD);
    }

    private static void branch() {
        CHECK.part("promises 7 and 8");
        PackShelf x = new PackShelf();
        x.blob();
        x.tree();
        x.commit(1, -1, 0);
        x.commit(1, 2, 1);
        CHECK.due("branch -1", x.branch(-1, 2), false);
        CHECK.due("branch 4", x.branch(4, 2), false);
        CHECK.due("branch 4", x.branch(4, -1), false);
        CHECK.due("a blob", x.branch(0, 0), false);
        CHECK.due("a tree", x.branch(0, 1), false);
        CHECK.due("thing 4", x.branch(0, 4), false);
        CHECK.due("thing -2", x.branch(0, -2), false);
        CHECK.due("holds nothing yet", x.held(0), PackShelf.BAD);
        for (int b = 0; b < 4; b++) {
            CHECK.due("branch", x.branch(b, 2 + b % 2), true);
            CHECK.due("held", x.held(b), 2 + b % 2);
        }
        CHECK.due("a tree", x.branch(0, 1), false);
        CHECK.due("still holds", x.held(0), 2);
        CHECK.due("another one", x.branch(0, 3), true);
        CHECK.due("held", x.held(0), 3);
        CHECK.due("nothing", x.branch(0, -1), true);
        CHECK.due("held", x.held(0), PackShelf.BAD);
        CHECK.due("nothing again", x.branch(0, -1), true);
        CHECK.due("held -1", x.held(-1), PackShelf.BAD);
        CHECK.due("held 4", x.held(4), PackShelf.BAD);
        CHECK.due("others hold", x.held(1), 3);
    }

    private static void reached() {
        CHECK.part("promise 15");
        PackShelf x = new PackShelf();
        int inner = PackTool.blobOf(x, "inner");
        int lone = PackTool.blobOf(x, "lone");
        x.entry(0, inner);
        int low = x.tree();
        x.entry(5, low);
        int high = x.tree();
        int first = x.commit(high, -1, 1);
        x.entry(1, lone);
        int other = x.tree();
        int second = x.commit(other, first, 2);
        for (int i = 0; i < x.things(); i++) {
            CHECK.due("no branch, " + i, x.reached(i), false);
        }
        x.branch(2, first);
        CHECK.due("commit", x.reached(first), true);
        CHECK.due("tree", x.reached(high), true);
        CHECK.due("tree in tree", x.reached(low), true);
        CHECK.due("blob", x.reached(inner), true);
        CHECK.due("child", x.reached(second), false);
        CHECK.due("its tree", x.reached(other), false);
        CHECK.due("its blob", x.reached(lone), false);
        x.branch(2, second);
        for (int i = 0; i < x.things(); i++) {
            CHECK.due("from the child, " + i, x.reached(i), true);
        }
        CHECK.due("-1", x.reached(-1), false);
        CHECK.due("16", x.reached(16), false);
        CHECK.due("as many as there are", x.reached(x.things()), false);
    }

    /** A read thing may have names at any place; a blob with a name in it refers to nothing. */
    private static void reachedAnywhere() {
        CHECK.part("promise 15, anywhere");
        byte[] leaf = PackTool.text("leaf");
        byte[] leafName = hex(hexName("blob", leaf));
        byte[] last = PackTool.join(PackTool.text("xxx"), leafName);
        byte[] blob = PackTool.join(PackTool.text("b"), hex(hexName("tree", last)));
        byte[] top = PackTool.join(leafName, hex(hexName("blob", blob)));
        byte[] broken = PackTool.join(leafName.clone(), PackTool.text("t"));
        broken[19] ^= 1;
        PackShelf x = PackTool.loaded(PackTool.pack(PackTool.whole(1, top), PackTool.whole(2, last),
                PackTool.whole(3, leaf), PackTool.whole(3, blob), PackTool.whole(1, broken)));
        CHECK.due("unpack()", x.unpack(), 5);
        CHECK.due("branch", x.branch(3, 0), true);
        CHECK.due("at the start", x.reached(2), true);
        CHECK.due("at the end", x.reached(3), true);
        CHECK.due("a blob refers to nothing", x.reached(1), false);
        x.branch(3, 4);
        CHECK.due("19 bytes are no name", x.reached(2), false);
        CHECK.due("no branch now", x.reached(0), false);
        CHECK.due("sweep()", x.sweep(), 4);
        CHECK.due("held", x.held(3), 0);
    }

    private static void reachedFull() {
        CHECK.part("promise 15, sixteen things");
        PackShelf x = new PackShelf();
        x.tree();
        for (int i = 0; i < 15; i++) {
            x.commit(0, i == 0 ? -1 : i, i);
        }
        x.branch(0, 14);
        for (int i = 0; i < 16; i++) {
            CHECK.due("thing " + i, x.reached(i), i < 15);
        }
        x.branch(1, 15);
        CHECK.due("the last one", x.reached(15), true);
        CHECK.due("none goes", x.sweep(), 0);
        x.branch(0, -1);
        x.branch(1, 3);
        CHECK.due("twelve go", x.sweep(), 12);
        CHECK.due("held", x.held(1), 3);
    }

    private static void sweepNumbers() {
        CHECK.part("promise 9");
        PackShelf x = new PackShelf();
        PackTool.blobOf(x, "gone");
        int kept = PackTool.blobOf(x, "kept");
        x.tree();
        x.entry(0, kept);
        int tree = x.tree();
        int old = x.commit(tree, -1, 1);
        PackTool.blobOf(x, "gone too");
        int young = x.commit(tree, old, 2);
        int lone = x.commit(tree, -1, 9);
        x.branch(0, old);
        x.branch(1, young);
        x.branch(3, young);
        x.entry(2, kept);
        CHECK.due("things()", x.things(), 8);
        CHECK.due("a lone commit", x.reached(lone), false);
        int name = x.name(young, 3);
        CHECK.due("sweep()", x.sweep(), 4);
        CHECK.due("things()", x.things(), 4);
        int[] kinds = {3, 2, 1, 1, PackShelf.BAD};
        for (int i = 0; i < kinds.length; i++) {
            CHECK.due("kind " + i, x.kind(i), kinds[i]);
        }
        holds(x, 0, PackTool.text("kept"));
        CHECK.due("branch 0", x.held(0), 2);
        CHECK.due("branch 1", x.held(1), 3);
        CHECK.due("branch 2", x.held(2), PackShelf.BAD);
        CHECK.due("branch 3", x.held(3), 3);
        CHECK.due("name", x.name(3, 3), name);
        CHECK.due("there is no draft", x.entry(2, 0), 1);
        CHECK.due("the next number", PackTool.blobOf(x, "gone"), 4);
        CHECK.due("kept is there", PackTool.blobOf(x, "kept"), 0);
    }

    private static void sweepLeaves() {
        CHECK.part("promise 9, what stays");
        PackShelf x = new PackShelf();
        int tree = x.tree();
        x.branch(0, x.commit(tree, -1, 1));
        x.pack();
        x.type(1, 3);
        x.entry(0, tree);
        x.entry(1, tree);
        int length = x.packed();
        CHECK.due("none goes", x.sweep(), 0);
        CHECK.due("there is no draft", x.entry(3, tree), 1);
        CHECK.due("typed stays", x.type(1, 1), 4);
        CHECK.due("the pack stays", x.packed(), length);
        x.branch(0, -1);
        CHECK.due("all go", x.sweep(), 2);
        CHECK.due("typed stays", x.type(1, 1), 5);
        CHECK.due("things()", x.things(), 0);
    }

    private static void noneSuch() {
        CHECK.part("promises 10 to 14");
        PackShelf x = new PackShelf();
        PackTool.blobOf(x, new byte[] {0, -1, 127, -128});
        int[] none = {-1, 1, 15, 16, 17, Integer.MAX_VALUE, Integer.MIN_VALUE};
        for (int thing : none) {
            CHECK.due("kind", x.kind(thing), PackShelf.BAD);
            CHECK.due("size", x.size(thing), PackShelf.BAD);
            CHECK.due("byteOf", x.byteOf(thing, 0), PackShelf.BAD);
            CHECK.due("name", x.name(thing, 0), 0);
            CHECK.due("reached", x.reached(thing), false);
        }
        int[] want = {PackShelf.BAD, 0, 255, 127, 128, PackShelf.BAD};
        for (int i = -1; i <= 4; i++) {
            CHECK.due("byteOf " + i, x.byteOf(0, i), want[i + 1]);
        }
        CHECK.due("byteOf 120", x.byteOf(0, 120), PackShelf.BAD);
        CHECK.due("byteOf highest", x.byteOf(0, Integer.MAX_VALUE), PackShelf.BAD);
        CHECK.due("name -1", x.name(0, -1), 0);
        CHECK.due("name 5", x.name(0, 5), 0);
        CHECK.due("name lowest", x.name(0, Integer.MIN_VALUE), 0);
        CHECK.due("things()", x.things(), 1);
    }

    /** Sixteen blobs of one byte, 0 to 15. */
    private static PackShelf full() {
        PackShelf x = new PackShelf();
        for (int i = 0; i < 16; i++) {
            CHECK.due("number", PackTool.blobOf(x, new byte[] {(byte) i}), i);
        }
        return x;
    }

    private static byte[] file(char letter, String name) {
        return PackTool.join(PackTool.text("100644 " + letter + "\0"), hex(name));
    }

    private static byte[] folder(char letter, String name) {
        return PackTool.join(PackTool.text("40000 " + letter + "\0"), hex(name));
    }

    private static byte[] hex(String digits) {
        return HexFormat.of().parseHex(digits);
    }

    private static String hexName(String kind, byte[] content) {
        byte[] all = PackTool.join(PackTool.text(kind + " " + content.length + "\0"), content);
        return HexFormat.of().formatHex(PackTool.sha(all));
    }

    private static void named(PackShelf x, int thing, String name) {
        for (int k = 0; k < 5; k++) {
            CHECK.due("name(" + thing + ", " + k + ")", x.name(thing, k),
                    (int) Long.parseLong(name.substring(8 * k, 8 * k + 8), 16));
        }
    }

    private static void holds(PackShelf x, int thing, byte[] content) {
        CHECK.due("size(" + thing + ")", x.size(thing), content.length);
        for (int i = 0; i < content.length; i++) {
            CHECK.due("byteOf(" + thing + ", " + i + ")", x.byteOf(thing, i), content[i] & 255);
        }
    }
}
