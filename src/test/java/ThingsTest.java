import java.util.Arrays;

/** Terms: the limits of contents, store, typed bytes and draft, what stands in a thing, what is reached. */
public final class ThingsTest {
    private static final Check CHECK = new Check();

    public static void main(String[] args) {
        contentOf120();
        storeOf16();
        numberedFromZero();
        nameTwice();
        typed64();
        draftOf4();
        entriesByLetters();
        entriesOfBlobsAndTrees();
        lettersFrom97();
        largestTree();
        commitWithoutParent();
        commitWithParent();
        timeInDecimal();
        blobRefersToNothing();
        refersToWhatIsThere();
        refersByAll20Bytes();
        refersAtAnyPlace();
        reachedByBranch();
        reachedByReached();
        CHECK.end();
    }

    private static void contentOf120() {
        CHECK.sentence("Terms", "A content has at most 120 bytes");
        byte[] most = PackTool.mixed(3, 120);
        PackShelf x = PackTool.loaded(PackTool.pack(PackTool.whole(3, most)));
        CHECK.due("120 bytes, unpack()", x.unpack(), 1);
        CHECK.due("size", x.size(0), 120);
        CHECK.due("content", PackTool.contentOf(x, 0), most);
        CHECK.due("byte 120", x.byteOf(0, 120), PackShelf.BAD);
        CHECK.due("121 bytes, unpack()", told(PackTool.whole(3, PackTool.mixed(3, 121))), PackShelf.LARGE);
        byte[] ten = PackTool.whole(3, PackTool.mixed(5, 10));
        CHECK.due("120 come out", told(ten, PackTool.difference(ten.length, tens(120, 12, 0))), 2);
        CHECK.due("121 come out", told(ten, PackTool.difference(ten.length, tens(121, 12, 1))), PackShelf.DIFFERENCE);
    }

    private static void storeOf16() {
        CHECK.sentence("Terms", "THE STORE has at most 16 things");
        PackShelf x = blobs(15);
        CHECK.due("the 16th", PackTool.blobOf(x, "last"), 15);
        CHECK.due("things()", x.things(), 16);
        CHECK.due("the 17th", PackTool.blobOf(x, "more"), PackShelf.FULL);
        CHECK.due("things()", x.things(), 16);
        CHECK.due("kind(15)", x.kind(15), 3);
        CHECK.due("kind(16)", x.kind(16), PackShelf.BAD);
        PackShelf y = blobs(15);
        CHECK.due("a tree as the 16th", y.tree(), 15);
        CHECK.due("a commit as the 17th", y.commit(15, -1, 0), PackShelf.FULL);
        PackShelf z = blobs(14);
        CHECK.due("a tree as the 15th", z.tree(), 14);
        CHECK.due("a commit as the 16th", z.commit(14, -1, 0), 15);
        z.entry(0, 0);
        CHECK.due("a tree as the 17th", z.tree(), PackShelf.FULL);
    }

    private static void numberedFromZero() {
        CHECK.sentence("Terms", "numbered from 0 in the order in which they came");
        PackShelf x = new PackShelf();
        CHECK.due("a tree", x.tree(), 0);
        CHECK.due("a commit", x.commit(0, -1, 0), 1);
        CHECK.due("a blob", x.blob(), 2);
        CHECK.due("a commit", x.commit(0, 1, 0), 3);
        int[] kinds = {2, 1, 3, 1, PackShelf.BAD};
        for (int i = 0; i < kinds.length; i++) {
            CHECK.due("kind(" + i + ")", x.kind(i), kinds[i]);
        }
    }

    private static void nameTwice() {
        CHECK.sentence("Terms", "one that has the name of another one does not come a second time: "
                + "its number is that of the other one");
        PackShelf x = new PackShelf();
        x.blob();
        CHECK.due("a tree of the same content", x.tree(), 1);
        x.commit(1, -1, 4);
        PackTool.blobOf(x, "b");
        CHECK.due("the blob", x.blob(), 0);
        CHECK.due("the tree", x.tree(), 1);
        CHECK.due("the commit", x.commit(1, -1, 4), 2);
        CHECK.due("the last blob", PackTool.blobOf(x, "b"), 3);
        CHECK.due("another commit", x.commit(1, -1, 5), 4);
        x.pack();
        CHECK.due("read", x.unpack(), 0);
        CHECK.due("things()", x.things(), 5);
    }

    private static void typed64() {
        CHECK.sentence("Terms", "THE TYPED BYTES are at most 64");
        PackShelf x = new PackShelf();
        byte[] row = PackTool.mixed(6, 64);
        PackTool.typeAll(x, row);
        CHECK.due("the 65th", x.type(1, 1), PackShelf.FULL);
        CHECK.due("blob()", x.blob(), 0);
        CHECK.due("content", PackTool.contentOf(x, 0), row);
    }

    private static void draftOf4() {
        CHECK.sentence("Terms", "THE DRAFT has at most 4 ENTRIES, each a letter 0 .. 25 and a blob or tree");
        PackShelf x = new PackShelf();
        x.blob();
        x.tree();
        CHECK.due("letter 25", x.entry(25, 0), 1);
        CHECK.due("letter 0", x.entry(0, 1), 2);
        CHECK.due("letter 26", x.entry(26, 0), PackShelf.BAD);
        CHECK.due("letter -1", x.entry(-1, 0), PackShelf.BAD);
        CHECK.due("the third", x.entry(2, 0), 3);
        CHECK.due("the fourth", x.entry(1, 0), 4);
        CHECK.due("a fifth", x.entry(3, 0), PackShelf.FULL);
        CHECK.due("size of the tree", x.size(x.tree()), 3 * 29 + 28);
    }

    private static void entriesByLetters() {
        CHECK.sentence("Terms, tree", "for each entry of the draft, by letters");
        int[][] orders = {{3, 9, 12, 20}, {20, 12, 9, 3}, {12, 3, 20, 9}};
        byte[] name = PackTool.nameOf(3, new byte[0]);
        byte[] want = PackTool.join(PackTool.text("100644 d\0"), name, PackTool.text("100644 j\0"), name,
                PackTool.text("100644 m\0"), name, PackTool.text("100644 u\0"), name);
        for (int[] order : orders) {
            PackShelf x = new PackShelf();
            x.blob();
            for (int letter : order) {
                x.entry(letter, 0);
            }
            CHECK.due("content", PackTool.contentOf(x, x.tree()), want);
        }
    }

    private static void entriesOfBlobsAndTrees() {
        CHECK.sentence("Terms, tree", "100644 for a blob, 40000 for a tree (in decimal digits), a space, the letter "
                + "(97 and so on), a byte 0 and the bytes of its name");
        PackShelf x = new PackShelf();
        PackTool.blobOf(x, "leaf");
        x.tree();
        x.entry(1, 0);
        x.entry(0, 1);
        CHECK.due("content", PackTool.contentOf(x, x.tree()), PackTool.join(PackTool.text("40000 a\0"),
                PackTool.nameOf(2, new byte[0]), PackTool.text("100644 b\0"), PackTool.nameOf(3, PackTool.text("leaf"))));
    }

    private static void lettersFrom97() {
        CHECK.sentence("Terms, tree", "the letter (97 and so on)");
        for (int letter = 0; letter < 26; letter++) {
            PackShelf x = new PackShelf();
            x.blob();
            x.entry(letter, 0);
            CHECK.due("letter " + letter, x.byteOf(x.tree(), 7), 97 + letter);
        }
    }

    private static void largestTree() {
        CHECK.sentence("Terms, tree", "at most 4 entries: 116 bytes with blobs alone, 112 with trees alone");
        PackShelf x = new PackShelf();
        x.blob();
        x.tree();
        for (int thing = 0; thing < 2; thing++) {
            for (int letter = 22; letter < 26; letter++) {
                x.entry(letter, thing);
            }
            int tree = x.tree();
            CHECK.due("size", x.size(tree), thing == 0 ? 116 : 112);
            CHECK.due("name", PackTool.nameOf(x, tree), PackTool.nameOf(2, PackTool.contentOf(x, tree)));
        }
    }

    private static void commitWithoutParent() {
        CHECK.sentence("Terms, commit", "tree, a space, the bytes of the tree's name and 10");
        PackShelf x = new PackShelf();
        x.blob();
        x.entry(0, 0);
        x.tree();
        x.tree();
        for (int tree = 1; tree <= 2; tree++) {
            int commit = x.commit(tree, -1, 12);
            CHECK.due("content", PackTool.contentOf(x, commit), PackTool.join(PackTool.text("tree "),
                    PackTool.nameOf(x, tree), PackTool.text("\nat 12\n")));
        }
    }

    private static void commitWithParent() {
        CHECK.sentence("Terms, commit", "if it has a parent, parent, a space, the bytes of its name and 10");
        PackShelf x = new PackShelf();
        x.tree();
        x.commit(0, -1, 5);
        x.commit(0, 1, 6);
        int last = x.commit(0, 2, 7);
        CHECK.due("content", PackTool.contentOf(x, last), PackTool.join(PackTool.text("tree "), PackTool.nameOf(x, 0),
                PackTool.text("\nparent "), PackTool.nameOf(x, 2), PackTool.text("\nat 7\n")));
        // Read from a pack, a commit may have the number 0; it is a parent like any other.
        PackShelf y = PackTool.loaded(PackTool.pack(PackTool.whole(1, "c"), PackTool.whole(2, "t")));
        y.unpack();
        CHECK.due("commit", y.commit(1, 0, 7), 2);
        CHECK.due("content", PackTool.contentOf(y, 2), PackTool.join(PackTool.text("tree "), PackTool.nameOf(y, 1),
                PackTool.text("\nparent "), PackTool.nameOf(y, 0), PackTool.text("\nat 7\n")));
    }

    private static void timeInDecimal() {
        CHECK.sentence("Terms, commit", "at, a space, its time in decimal, and 10");
        int unit = 1;
        for (int digits = 1; digits <= 10; digits++) {
            for (int time : new int[] {unit - 1, unit, unit + 1}) {
                timeIs(time);
            }
            unit *= 10;
        }
        timeIs(2000000000);
        timeIs(2147483646);
        timeIs(2147483647);
    }

    private static void timeIs(int time) {
        PackShelf x = new PackShelf();
        x.tree();
        CHECK.due("commit", x.commit(0, -1, time), 1);
        byte[] content = PackTool.contentOf(x, 1);
        CHECK.due("time " + time, Arrays.copyOfRange(content, 25, content.length), PackTool.text("\nat " + time + "\n"));
    }

    private static void blobRefersToNothing() {
        CHECK.sentence("Terms", "A thing that is no blob REFERS");
        byte[] leafName = PackTool.nameOf(3, PackTool.text("leaf"));
        for (int kind = 1; kind <= 3; kind++) {
            byte[] holder = PackTool.join(PackTool.text("it names "), leafName);
            PackShelf x = read(PackTool.whole(1, PackTool.nameOf(kind, holder)), PackTool.whole(kind, holder),
                    PackTool.whole(3, "leaf"));
            x.branch(0, 0);
            CHECK.due("a thing of kind " + kind, x.reached(1), true);
            CHECK.due("named by kind " + kind, x.reached(2), kind != 3);
        }
    }

    private static void refersToWhatIsThere() {
        CHECK.sentence("Terms", "to those in the store the 20 bytes of whose names stand in its content");
        PackShelf x = read(PackTool.whole(1, PackTool.nameOf(3, PackTool.text("late"))));
        x.branch(0, 0);
        PackTool.blobOf(x, "other");
        CHECK.due("one that is not named", x.reached(1), false);
        PackTool.blobOf(x, "late");
        CHECK.due("one that came later", x.reached(2), true);
        PackShelf y = read(PackTool.whole(1, PackTool.nameOf(3, PackTool.text("late"))), PackTool.whole(2, "late"));
        y.branch(0, 0);
        CHECK.due("the same content as a tree", y.reached(1), false);
    }

    private static void refersByAll20Bytes() {
        CHECK.sentence("Terms", "the 20 bytes of whose names");
        byte[] name = PackTool.nameOf(3, PackTool.text("leaf"));
        for (int i = 0; i < 20; i++) {
            byte[] other = name.clone();
            other[i] ^= 64;
            PackShelf x = read(PackTool.whole(1, other), PackTool.whole(3, "leaf"));
            x.branch(0, 0);
            CHECK.due("byte " + i + " differs", x.reached(1), false);
        }
        for (int i = 1; i < 20; i++) {
            PackShelf x = read(PackTool.whole(1, Arrays.copyOf(name, i)), PackTool.whole(3, "leaf"));
            x.branch(0, 0);
            CHECK.due(i + " bytes alone", x.reached(1), false);
            PackShelf y = read(PackTool.whole(1, Arrays.copyOfRange(name, i, 20)), PackTool.whole(3, "leaf"));
            y.branch(0, 0);
            CHECK.due("all but " + i, y.reached(1), false);
        }
    }

    private static void refersAtAnyPlace() {
        CHECK.sentence("Terms", "at any place");
        byte[] name = PackTool.nameOf(3, PackTool.text("leaf"));
        for (int kind = 1; kind <= 2; kind++) {
            for (int place = 0; place <= 100; place += place < 8 || place > 95 ? 1 : 7) {
                byte[] holder = PackTool.join(PackTool.repeat(7, place), name, PackTool.repeat(7, 100 - place));
                PackShelf x = read(PackTool.whole(1, PackTool.nameOf(kind, holder)), PackTool.whole(kind, holder),
                        PackTool.whole(3, "leaf"));
                x.branch(0, 0);
                CHECK.due("at place " + place, x.reached(2), true);
            }
        }
        PackShelf x = read(PackTool.whole(1, PackTool.join(PackTool.bytes(name[0]), name, name)), PackTool.whole(3, "leaf"));
        x.branch(0, 0);
        CHECK.due("behind its own first byte", x.reached(1), true);
        PackShelf y = read(PackTool.whole(1, name), PackTool.whole(3, "leaf"));
        y.branch(0, 0);
        CHECK.due("and nothing else", y.reached(1), true);
    }

    private static void reachedByBranch() {
        CHECK.sentence("Terms", "A thing is REACHED if a branch holds it");
        PackShelf x = new PackShelf();
        x.tree();
        for (int i = 0; i < 5; i++) {
            x.commit(0, -1, i);
        }
        CHECK.due("no branch holds it", x.reached(1), false);
        for (int b = 0; b < 4; b++) {
            x.branch(b, b + 1);
            CHECK.due("held by " + b, x.reached(b + 1), true);
            CHECK.due("held by none yet", x.reached(b + 2), false);
        }
        for (int b = 0; b < 4; b++) {
            x.branch(b, -1);
            CHECK.due("no longer held by " + b, x.reached(b + 1), false);
        }
        CHECK.due("the tree", x.reached(0), false);
    }

    private static void reachedByReached() {
        CHECK.sentence("Terms", "or if one that is reached refers to it");
        longestChain();
        PackShelf x = new PackShelf();
        PackTool.blobOf(x, "the end");
        for (int i = 0; i < 7; i++) {
            x.entry(i, i);
            x.tree();
        }
        x.commit(7, -1, 0);
        for (int i = 0; i < 7; i++) {
            x.commit(7, 8 + i, i);
        }
        CHECK.due("things()", x.things(), 16);
        x.branch(3, 15);
        for (int i = 0; i < 16; i++) {
            CHECK.due("from the last, " + i, x.reached(i), true);
        }
        x.branch(3, 8);
        for (int i = 0; i < 16; i++) {
            CHECK.due("from the first commit, " + i, x.reached(i), i <= 8);
        }
    }

    /** As long as the store has room for: the blob is reached only through all others. */
    private static void longestChain() {
        PackShelf x = new PackShelf();
        PackTool.blobOf(x, "the end");
        for (int i = 0; i < 14; i++) {
            x.entry(0, i);
            x.tree();
        }
        CHECK.due("the 16th", x.commit(14, -1, 0), 15);
        CHECK.due("no branch", x.reached(0), false);
        x.branch(0, 15);
        for (int i = 0; i < 16; i++) {
            CHECK.due("in the chain, " + i, x.reached(i), true);
        }
        CHECK.due("none goes", x.sweep(), 0);
    }

    private static byte[] tens(int told, int copies, int fresh) {
        byte[] row = PackTool.bytes(10, told);
        for (int i = 0; i < copies; i++) {
            row = PackTool.join(row, PackTool.bytes(145, 0, 10));
        }
        return fresh == 0 ? row : PackTool.join(row, PackTool.bytes(fresh), PackTool.repeat(7, fresh));
    }

    private static PackShelf blobs(int n) {
        PackShelf x = new PackShelf();
        for (int i = 0; i < n; i++) {
            x.type(i, 1);
            x.blob();
        }
        return x;
    }

    private static int told(byte[]... things) {
        return PackTool.loaded(PackTool.pack(things)).unpack();
    }

    private static PackShelf read(byte[]... things) {
        PackShelf x = PackTool.loaded(PackTool.pack(things));
        CHECK.due("unpack()", x.unpack(), things.length);
        return x;
    }
}
