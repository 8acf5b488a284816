import java.util.Arrays;

/** Promise 22: packs written by hand, right ones and wrong ones, and which fault is told first. */
public final class UnpackTest {
    private static final Check CHECK = new Check();
    private static final byte[] BASE_THING = PackTool.whole(3, "0123456789");

    public static void main(String[] args) {
        noPack();
        tooShort();
        notSealed();
        tellsTooMany();
        ends();
        bytesLeft();
        types();
        large();
        longMarks();
        bases();
        twoByteDistances();
        wraps();
        wrapBeforeEnds();
        differencesThatFail();
        differencesThatWork();
        chains();
        kindsAndOrder();
        sameTwice();
        storeFull();
        firstFaultOfTwo();
        nothingChanges();
        whatStays();
        CHECK.end();
    }

    private static void noPack() {
        CHECK.part("no pack");
        CHECK.due("unpack()", new PackShelf().unpack(), PackShelf.BAD);
    }

    private static void tooShort() {
        CHECK.part("SHORT");
        byte[] pack = PackTool.pack();
        CHECK.due("32 bytes", told(pack), 0);
        for (int n = 1; n < 32; n++) {
            CHECK.due(n + " bytes", told(Arrays.copyOf(pack, n)), PackShelf.SHORT);
        }
        CHECK.due("31 bytes, sealed", told(PackTool.sealed(Arrays.copyOf(pack, 11))), PackShelf.SHORT);
        for (int i = 0; i < 8; i++) {
            byte[] wrong = PackTool.head(0);
            wrong[i] ^= 1;
            CHECK.due("byte " + i, told(PackTool.sealed(wrong)), PackShelf.SHORT);
            CHECK.due("SHORT before SEAL", told(PackTool.join(wrong, new byte[20])), PackShelf.SHORT);
        }
    }

    private static void notSealed() {
        CHECK.part("SEAL");
        byte[] pack = PackTool.pack(BASE_THING);
        for (int i = 8; i < pack.length; i++) {
            byte[] wrong = pack.clone();
            wrong[i] ^= 128;
            CHECK.due("byte " + i, told(wrong), PackShelf.SEAL);
        }
    }

    private static void tellsTooMany() {
        CHECK.part("FULL, by the number");
        CHECK.due("17", told(PackTool.sealed(PackTool.head(17))), PackShelf.FULL);
        CHECK.due("16", told(PackTool.sealed(PackTool.head(16))), PackShelf.ENDS);
        CHECK.due("256", told(PackTool.sealed(PackTool.head(256))), PackShelf.FULL);
        CHECK.due("2^24", told(PackTool.sealed(PackTool.head(1L << 24))), PackShelf.FULL);
        CHECK.due("2^31", told(PackTool.sealed(PackTool.head(1L << 31))), PackShelf.FULL);
        CHECK.due("2^32 - 1", told(PackTool.sealed(PackTool.head(0xFFFFFFFFL))), PackShelf.FULL);
    }

    /** A pack cut anywhere within its things, and sealed again, ends too early. */
    private static void ends() {
        CHECK.part("ENDS");
        byte[] thing = PackTool.whole(2, "twenty bytes are here");
        byte[] far = PackTool.join(PackTool.mark(6, 9), PackTool.bytes(128, 0), PackTool.wrap(new byte[9]));
        byte[][] rows = {thing, PackTool.join(BASE_THING, PackTool.difference(BASE_THING.length,
                PackTool.bytes(10, 4, 145, 0, 4)))};
        for (byte[] row : rows) {
            int things = row == thing ? 1 : 2;
            for (int n = 0; n < row.length; n++) {
                CHECK.due(n + " bytes", told(PackTool.sealed(PackTool.join(PackTool.head(things),
                        Arrays.copyOf(row, n)))), PackShelf.ENDS);
            }
            CHECK.due("all", told(PackTool.sealed(PackTool.join(PackTool.head(things), row))), things);
        }
        CHECK.due("in the distance", told(PackTool.sealed(PackTool.join(PackTool.head(1), Arrays.copyOf(far, 2)))),
                PackShelf.ENDS);
        CHECK.due("in a long mark", told(PackTool.pack(PackTool.bytes(191, 255, 255, 255, 255, 255))), PackShelf.ENDS);
    }

    private static void bytesLeft() {
        CHECK.part("ENDS, bytes left over");
        CHECK.due("one", told(PackTool.sealed(PackTool.join(PackTool.head(1), BASE_THING, new byte[1]))),
                PackShelf.ENDS);
        CHECK.due("of none", told(PackTool.sealed(PackTool.join(PackTool.head(0), new byte[1]))), PackShelf.ENDS);
        CHECK.due("a thing more", told(PackTool.sealed(PackTool.join(PackTool.head(1), BASE_THING, BASE_THING))),
                PackShelf.ENDS);
    }

    private static void types() {
        CHECK.part("TYPE");
        int[] due = {PackShelf.TYPE, 1, 1, 1, PackShelf.TYPE, PackShelf.TYPE, PackShelf.BASE, PackShelf.TYPE};
        for (int type = 0; type < 8; type++) {
            byte[] thing = type == 6 ? PackTool.difference(5, new byte[3]) : PackTool.whole(type, "abc");
            CHECK.due("type " + type, told(PackTool.pack(thing)), due[type]);
            byte[] longer = type == 6 ? PackTool.difference(5, new byte[30]) : PackTool.whole(type, new byte[30]);
            CHECK.due("longer, type " + type, told(PackTool.pack(longer)), due[type]);
        }
        CHECK.due("a byte 0", told(PackTool.pack(PackTool.bytes(0))), PackShelf.TYPE);
        CHECK.due("before the mark's end", told(PackTool.pack(PackTool.bytes(128 + 64))), PackShelf.TYPE);
    }

    private static void large() {
        CHECK.part("LARGE");
        CHECK.due("120", told(PackTool.pack(PackTool.whole(1, new byte[120]))), 1);
        CHECK.due("121", told(PackTool.pack(PackTool.whole(1, new byte[121]))), PackShelf.LARGE);
        CHECK.due("a difference", told(PackTool.pack(BASE_THING, PackTool.mark(6, 121))), PackShelf.LARGE);
        CHECK.due("before the distance", told(PackTool.pack(PackTool.mark(6, 5000))), PackShelf.LARGE);
    }

    /** A mark may have more bytes than it needs; no number of them makes a large n small. */
    private static void longMarks() {
        CHECK.part("marks that are long");
        byte[] rest = PackTool.wrap(PackTool.text("0123456789"));
        for (int n = 0; n < 14; n++) {
            byte[] zeros = PackTool.repeat(128, n);
            byte[] first = PackTool.bytes(128 + 48 + 10);
            CHECK.due("no bits, " + n, told(PackTool.sealed(PackTool.join(PackTool.head(1), first, zeros,
                    PackTool.bytes(0), rest))), 1);
            for (int bit = n == 0 ? 8 : 1; bit < 128; bit *= 2) {
                CHECK.due("a bit behind " + n, told(PackTool.sealed(PackTool.join(PackTool.head(1), first, zeros,
                        PackTool.bytes(bit), rest))), PackShelf.LARGE);
                CHECK.due("a bit among zeros behind " + n, told(PackTool.sealed(PackTool.join(PackTool.head(1), first,
                        zeros, PackTool.bytes(128 + bit, 128, 128, 0), rest))), PackShelf.LARGE);
            }
        }
    }

    private static void bases() {
        CHECK.part("BASE");
        byte[] steps = PackTool.bytes(10, 4, 145, 0, 4);
        int length = BASE_THING.length;
        for (int distance = 0; distance <= 60; distance++) {
            byte[] pack = PackTool.pack(BASE_THING, PackTool.difference(distance, steps));
            CHECK.due("distance " + distance, told(pack), distance == length ? 2 : PackShelf.BASE);
        }
        CHECK.due("no thing before", told(PackTool.pack(PackTool.difference(12, steps))), PackShelf.BASE);
        CHECK.due("itself", told(PackTool.pack(PackTool.difference(0, steps))), PackShelf.BASE);
        CHECK.due("far before the pack", told(PackTool.pack(BASE_THING, PackTool.join(PackTool.mark(6, 5),
                PackTool.bytes(255, 255), PackTool.wrap(steps)))), PackShelf.BASE);
        CHECK.due("told before what is wrapped", told(PackTool.pack(BASE_THING, PackTool.bytes(96 + 5, 3))),
                PackShelf.BASE);
    }

    /** 128 and more; the second byte counts as it is, be it above 127 or not. */
    private static void twoByteDistances() {
        CHECK.part("distances of two bytes");
        byte[] steps = PackTool.bytes(10, 4, 145, 0, 4);
        for (int n = 88; n <= 120; n++) {
            byte[] between = PackTool.whole(2, new byte[n]);
            int distance = BASE_THING.length + between.length;
            CHECK.due("distance " + distance, told(PackTool.pack(BASE_THING, between,
                    PackTool.difference(distance, steps))), 3);
            CHECK.due("one too far, " + distance, told(PackTool.pack(BASE_THING, between,
                    PackTool.difference(distance + 1, steps))), PackShelf.BASE);
        }
        byte[] between = PackTool.whole(2, new byte[120]);
        byte[] more = PackTool.whole(2, new byte[119]);
        int distance = BASE_THING.length + between.length + more.length;
        byte[] back = PackTool.bytes(128, distance - 128);
        CHECK.due("y is above 127", told(PackTool.pack(BASE_THING, between, more,
                PackTool.join(PackTool.mark(6, 5), back, PackTool.wrap(steps)))), 4);
        CHECK.due("x is 129", told(PackTool.pack(BASE_THING, between, more, PackTool.difference(distance, steps))), 4);
    }

    private static void wraps() {
        CHECK.part("WRAP");
        byte[] thing = PackTool.whole(3, "0123456789abcdefghij");
        for (int i = 2; i < thing.length; i++) {
            for (int bit = 1; bit < 256; bit *= 8) {
                byte[] wrong = thing.clone();
                wrong[i] ^= (byte) bit;
                CHECK.due("byte " + i, told(PackTool.pack(wrong)), PackShelf.WRAP);
            }
        }
        CHECK.due("all 255", told(PackTool.pack(PackTool.whole(3, PackTool.repeat(255, 120)))), 1);
        byte[] steps = PackTool.difference(BASE_THING.length, PackTool.bytes(1, 1, 0));
        steps[steps.length - 1] ^= 1;
        CHECK.due("before DIFFERENCE", told(PackTool.pack(BASE_THING, steps)), PackShelf.WRAP);
    }

    private static void wrapBeforeEnds() {
        CHECK.part("WRAP before ENDS");
        CHECK.due("the first byte", told(PackTool.pack(PackTool.bytes(48 + 5, 121))), PackShelf.WRAP);
        CHECK.due("the number", told(PackTool.pack(PackTool.bytes(48 + 5, 120, 1, 1, 6))), PackShelf.WRAP);
        CHECK.due("the data", told(PackTool.pack(PackTool.bytes(48 + 5, 120, 1, 1, 5, 0, 250, 255, 9, 9, 9, 9))),
                PackShelf.ENDS);
        CHECK.due("behind it", told(PackTool.pack(PackTool.bytes(48, 120, 1, 1, 0, 0, 255, 255, 1))), PackShelf.WRAP);
        CHECK.due("behind it", told(PackTool.pack(PackTool.bytes(48, 120, 1, 1, 0, 0, 255, 255, 0))), PackShelf.ENDS);
    }

    private static void differencesThatFail() {
        CHECK.part("DIFFERENCE");
        failing("nothing");
        failing("no second byte", 10);
        failing("length of the other one", 9, 4, 145, 0, 4);
        failing("length of the other one", 11, 4, 145, 0, 4);
        failing("length that comes out", 10, 5, 145, 0, 4);
        failing("length that comes out", 10, 3, 145, 0, 4);
        failing("length that comes out", 10, 1);
        failing("begins with 0", 10, 4, 0, 145, 0, 4);
        failing("begins with 0 at the end", 10, 4, 145, 0, 4, 0);
        failing("begins with 128", 10, 4, 128, 0, 4);
        failing("begins with 144", 10, 4, 144, 0, 4);
        failing("begins with 146", 10, 4, 146, 0, 4);
        failing("begins with 255", 10, 4, 255, 0, 4);
        failing("no place", 10, 4, 145);
        failing("no length", 10, 0, 145, 0);
        failing("no length", 10, 4, 145, 0);
        failing("copied is not there", 10, 11, 145, 0, 11);
        failing("copied is not there", 10, 1, 145, 10, 1);
        failing("copied is not there", 10, 4, 145, 7, 4);
        failing("copied is not there", 10, 255, 145, 255, 255);
        failing("new is not there", 10, 4, 4, 1, 2, 3);
        failing("new is not there", 10, 127, 127);
        failing("new is not there", 10, 0, 1);
        failing("behind a good one", 10, 8, 145, 0, 4, 145, 0, 4, 145, 11, 4);
        int[] many = new int[2 + 13 * 3];
        many[0] = 10;
        many[1] = 130;
        for (int i = 0; i < 13; i++) {
            many[2 + 3 * i] = 145;
            many[4 + 3 * i] = 10;
        }
        failing("130 bytes", many);
        many[1] = 120;
        failing("130 bytes, said to be 120", many);
        int[] twelve = Arrays.copyOf(many, 2 + 12 * 3 + 2);
        twelve[2 + 36] = 1;
        twelve[1] = 121;
        failing("121 bytes", twelve);
    }

    private static void failing(String what, int... steps) {
        CHECK.due(what, told(PackTool.pack(BASE_THING,
                PackTool.difference(BASE_THING.length, PackTool.bytes(steps)))), PackShelf.DIFFERENCE);
    }

    private static void differencesThatWork() {
        CHECK.part("differences");
        working("", 10, 0);
        working("0123", 10, 4, 145, 0, 4);
        working("9", 10, 1, 145, 9, 1);
        working("0123456789", 10, 10, 145, 0, 10);
        working("x", 10, 1, 1, 'x');
        working("xy89z01", 10, 7, 2, 'x', 'y', 145, 8, 2, 1, 'z', 145, 0, 2);
        working("ab", 10, 2, 1, 'a', 1, 'b');
        working("ab", 10, 2, 1, 'a', 145, 3, 0, 1, 'b');
        int[] twelve = new int[2 + 12 * 3];
        twelve[0] = 10;
        twelve[1] = 120;
        for (int i = 0; i < 12; i++) {
            twelve[2 + 3 * i] = 145;
            twelve[4 + 3 * i] = 10;
        }
        working("0123456789".repeat(12), twelve);
        int[] fresh = new int[2 + 1 + 117];
        fresh[0] = 10;
        fresh[1] = 117;
        fresh[2] = 117;
        Arrays.fill(fresh, 3, fresh.length, 'n');
        working("n".repeat(117), fresh);
    }

    private static void working(String want, int... steps) {
        PackShelf x = PackTool.loaded(PackTool.pack(BASE_THING,
                PackTool.difference(BASE_THING.length, PackTool.bytes(steps))));
        boolean same = want.equals("0123456789");
        CHECK.due("unpack()", x.unpack(), same ? 1 : 2);
        holds(x, same ? 0 : 1, PackTool.text(want));
        CHECK.due("kind", x.kind(0), 3);
    }

    /** Reading, a difference may be from a difference, however many are in a row, and from any thing before. */
    private static void chains() {
        CHECK.part("differences from differences");
        byte[][] things = new byte[8][];
        things[0] = PackTool.whole(2, "0123456789");
        for (int i = 1; i < things.length; i++) {
            byte[] steps = PackTool.bytes(9 + i, 10 + i, 145, 0, 9 + i, 1, 'a' + i);
            things[i] = PackTool.difference(things[i - 1].length, steps);
        }
        PackShelf x = PackTool.loaded(PackTool.pack(things));
        CHECK.due("unpack()", x.unpack(), 8);
        holds(x, 7, PackTool.text("0123456789bcdefgh"));
        for (int i = 0; i < 8; i++) {
            CHECK.due("kind " + i, x.kind(i), 2);
        }
    }

    private static void kindsAndOrder() {
        CHECK.part("kinds and order");
        byte[] blob = PackTool.whole(3, "blob");
        byte[] commit = PackTool.whole(1, "commit");
        byte[] tree = PackTool.whole(2, "tree");
        byte[] steps = PackTool.bytes(6, 4, 145, 0, 4);
        byte[] all = PackTool.pack(blob, commit, tree, PackTool.difference(commit.length + tree.length, steps));
        PackShelf x = PackTool.loaded(all);
        PackTool.blobOf(x, "mine");
        PackTool.blobOf(x, "blob");
        CHECK.due("unpack()", x.unpack(), 3);
        int[] kinds = {3, 3, 1, 2, 1, PackShelf.BAD};
        for (int i = 0; i < kinds.length; i++) {
            CHECK.due("kind " + i, x.kind(i), kinds[i]);
        }
        holds(x, 0, PackTool.text("mine"));
        holds(x, 4, PackTool.text("comm"));
        byte[] sum = PackTool.sha(PackTool.text("commit 4\0comm"));
        for (int k = 0; k < 5; k++) {
            CHECK.due("name " + k, x.name(4, k), java.nio.ByteBuffer.wrap(sum).getInt(4 * k));
        }
        CHECK.due("the same content, another kind", PackTool.blobOf(x, "commit"), 5);
        CHECK.due("held by a branch", x.branch(0, 4), true);
    }

    private static void sameTwice() {
        CHECK.part("the same thing twice");
        byte[] one = PackTool.whole(3, "one");
        PackShelf x = PackTool.loaded(PackTool.pack(one, PackTool.whole(3, "two"), one, PackTool.whole(1, "one")));
        CHECK.due("unpack()", x.unpack(), 3);
        CHECK.due("things()", x.things(), 3);
        CHECK.due("kind 2", x.kind(2), 1);
        CHECK.due("again", x.unpack(), 0);
    }

    private static void storeFull() {
        CHECK.part("FULL, by the store");
        byte[] pack = PackTool.pack(PackTool.whole(3, "p"), PackTool.whole(3, "q"), PackTool.whole(3, "p"));
        int[] due = {2, PackShelf.FULL, PackShelf.FULL};
        for (int more = 0; more < due.length; more++) {
            PackShelf x = PackTool.loaded(pack);
            for (int i = 0; i < 14 + more; i++) {
                PackTool.blobOf(x, new byte[] {(byte) i});
            }
            CHECK.due(14 + more + " there", x.unpack(), due[more]);
            CHECK.due("things()", x.things(), more == 0 ? 16 : 14 + more);
        }
        PackShelf y = PackTool.loaded(pack);
        for (int i = 0; i < 15; i++) {
            PackTool.blobOf(y, i == 3 ? new byte[] {'q'} : new byte[] {(byte) i});
        }
        CHECK.due("one of them there", y.unpack(), 1);
        CHECK.due("both of them there", y.unpack(), 0);
        byte[][] many = new byte[17][];
        Arrays.fill(many, PackTool.whole(3, "p"));
        CHECK.due("16 times the same", told(PackTool.pack(Arrays.copyOf(many, 16))), 1);
        CHECK.due("17 times the same", told(PackTool.pack(many)), PackShelf.FULL);
        PackShelf z = PackTool.loaded(PackTool.sealed(PackTool.join(PackTool.head(1), PackTool.whole(3, "p"),
                new byte[1])));
        for (int i = 0; i < 16; i++) {
            PackTool.blobOf(z, new byte[] {(byte) i});
        }
        CHECK.due("ENDS before FULL", z.unpack(), PackShelf.ENDS);
    }

    private static void firstFaultOfTwo() {
        CHECK.part("the first fault");
        byte[] badWrap = PackTool.whole(3, "wrapped");
        badWrap[1] = 0;
        byte[] badType = PackTool.whole(4, "type");
        byte[] badSteps = PackTool.difference(BASE_THING.length, PackTool.bytes(1, 1));
        CHECK.due("WRAP, TYPE", told(PackTool.pack(badWrap, badType)), PackShelf.WRAP);
        CHECK.due("TYPE, WRAP", told(PackTool.pack(badType, badWrap)), PackShelf.TYPE);
        CHECK.due("DIFFERENCE, TYPE", told(PackTool.pack(BASE_THING, badSteps, badType)), PackShelf.DIFFERENCE);
        CHECK.due("SEAL, FULL", told(PackTool.join(PackTool.head(17), new byte[20])), PackShelf.SEAL);
        CHECK.due("FULL, TYPE", told(PackTool.sealed(PackTool.join(PackTool.head(17), badType))), PackShelf.FULL);
        CHECK.due("WRAP, bytes left", told(PackTool.sealed(PackTool.join(PackTool.head(1), badWrap, badType))),
                PackShelf.WRAP);
    }

    private static void nothingChanges() {
        CHECK.part("nothing changes");
        PackShelf x = PackTool.loaded(PackTool.pack(PackTool.whole(2, "fresh"), PackTool.whole(5, "type")));
        PackTool.blobOf(x, "mine");
        x.type(1, 2);
        x.entry(4, 0);
        CHECK.due("unpack()", x.unpack(), PackShelf.TYPE);
        CHECK.due("things()", x.things(), 1);
        CHECK.due("typed", x.type(1, 1), 3);
        CHECK.due("draft", x.entry(5, 0), 2);
        holds(x, 0, PackTool.text("mine"));
    }

    private static void whatStays() {
        CHECK.part("what stays");
        byte[] pack = PackTool.pack(PackTool.whole(2, ""), PackTool.whole(3, "new"));
        PackShelf x = PackTool.loaded(pack);
        PackTool.blobOf(x, "mine");
        x.commit(x.tree(), -1, 3);
        x.branch(1, 2);
        x.type(1, 2);
        x.entry(4, 0);
        CHECK.due("unpack()", x.unpack(), 1);
        CHECK.due("packed()", x.packed(), pack.length);
        for (int i = 0; i < pack.length; i++) {
            CHECK.due("packByte(" + i + ")", x.packByte(i), pack[i] & 255);
        }
        CHECK.due("typed", x.type(1, 1), 3);
        CHECK.due("draft", x.entry(5, 0), 2);
        CHECK.due("branch", x.held(1), 2);
        CHECK.due("things()", x.things(), 4);
    }

    private static int told(byte[] pack) {
        return PackTool.loaded(pack).unpack();
    }

    private static void holds(PackShelf x, int thing, byte[] content) {
        CHECK.due("size(" + thing + ")", x.size(thing), content.length);
        for (int i = 0; i < content.length; i++) {
            CHECK.due("byteOf(" + thing + ", " + i + ")", x.byteOf(thing, i), content[i] & 255);
        }
    }
}
