/** "An object is used for at most 512 calls after it has been made": each of them answers as due, the 512th too. */
public final class CallsTest {
    private static final Check CHECK = new Check();
    private static final int MOST_CALLS = 512;

    public static void main(String[] args) {
        sameCall();
        typeAndSweep();
        commits();
        branches();
        drafts();
        packs();
        faults();
        objects();
        CHECK.end();
    }

    private static void sameCall() {
        CHECK.sentence("What it is", "at most 512 calls: 512 times the same one");
        PackShelf[] x = new PackShelf[12];
        for (int i = 0; i < x.length; i++) {
            x[i] = new PackShelf();
        }
        for (int i = 0; i < MOST_CALLS; i++) {
            CHECK.due("type, call " + (i + 1), x[0].type(i, 1), i < 64 ? i + 1 : PackShelf.FULL);
            CHECK.due("blob()", x[1].blob(), 0);
            CHECK.due("tree()", x[2].tree(), 0);
            CHECK.due("entry", x[3].entry(0, 0), PackShelf.BAD);
            CHECK.due("commit", x[4].commit(0, -1, i), PackShelf.BAD);
            CHECK.due("branch", x[5].branch(i % 4, -1), true);
            CHECK.due("sweep()", x[6].sweep(), 0);
            CHECK.due("pack()", x[7].pack(), 32);
            CHECK.due("unpack()", x[8].unpack(), PackShelf.BAD);
            CHECK.due("seal()", x[9].seal(), false);
            CHECK.due("reached", x[10].reached(0), false);
            CHECK.due("cut", x[11].cut(1), false);
        }
    }

    private static void typeAndSweep() {
        CHECK.sentence("What it is", "at most 512 calls: 170 blobs that come and go");
        PackShelf x = new PackShelf();
        for (int i = 0; i < 170; i++) {
            CHECK.due("type", x.type(i, 2), 2);
            CHECK.due("blob()", x.blob(), 0);
            CHECK.due("sweep()", x.sweep(), 1);
        }
        CHECK.due("call 511", x.type(3, 8), 8);
        CHECK.due("call 512", x.things(), 0);
    }

    private static void commits() {
        CHECK.sentence("What it is", "at most 512 calls: more commits than the store has room for");
        PackShelf x = new PackShelf();
        x.tree();
        for (int i = 1; i < MOST_CALLS; i++) {
            CHECK.due("commit " + i, x.commit(0, i == 1 || i > 15 ? -1 : i - 1, i), i <= 15 ? i : PackShelf.FULL);
        }
    }

    private static void branches() {
        CHECK.sentence("What it is", "at most 512 calls: branches that hold and let go");
        PackShelf x = new PackShelf();
        x.commit(x.tree(), -1, 0);
        for (int i = 0; i < 127; i++) {
            CHECK.due("branch", x.branch(i % 4, 1), true);
            CHECK.due("reached", x.reached(0), true);
            CHECK.due("nothing", x.branch(i % 4, -1), true);
            CHECK.due("reached", x.reached(0), false);
        }
        CHECK.due("call 511", x.sweep(), 2);
        CHECK.due("call 512", x.things(), 0);
    }

    private static void drafts() {
        CHECK.sentence("What it is", "at most 512 calls: drafts of three trees in turn");
        PackShelf x = new PackShelf();
        x.blob();
        for (int i = 0; i < 102; i++) {
            for (int k = 0; k < 4; k++) {
                CHECK.due("entry", x.entry(i % 3 + 7 * k, 0), k + 1);
            }
            CHECK.due("tree()", x.tree(), 1 + i % 3);
        }
        CHECK.due("call 512", x.things(), 4);
    }

    /** Written, altered, sealed and read, over and over; a store of two things, none of which stays. */
    private static void packs() {
        CHECK.sentence("What it is", "at most 512 calls: packs that are written and read");
        PackShelf x = new PackShelf();
        PackTool.blobOf(x, "0123456789ABCDEF");
        PackTool.blobOf(x, "0123456789ABCDEFG");
        for (int i = 0; i < 84; i++) {
            CHECK.due("pack()", x.pack(), 32 + 29 + 1 + 1 + 11 + 7);
            CHECK.due("unpack()", x.unpack(), 0);
            CHECK.due("alter", x.alter(21, 100 + i), true);
            CHECK.due("seal()", x.seal(), true);
            CHECK.due("unpack()", x.unpack(), PackShelf.WRAP);
            CHECK.due("cut", x.cut(1), true);
        }
        CHECK.due("things()", x.things(), 2);
    }

    private static void faults() {
        CHECK.sentence("What it is", "at most 512 calls: a pack that is read again and again");
        PackShelf x = new PackShelf();
        PackTool.blobOf(x, PackTool.mixed(2, 64));
        PackTool.blobOf(x, PackTool.mixed(3, 64));
        x.pack();
        x.alter(30, 1);
        for (int i = 0; i < 95; i++) {
            CHECK.due("unpack()", x.unpack(), PackShelf.SEAL);
            CHECK.due("seal()", x.seal(), true);
            CHECK.due("unpack()", x.unpack(), PackShelf.WRAP);
            CHECK.due("alter", x.alter(185, x.packByte(185) ^ 1), true);
        }
        CHECK.due("things()", x.things(), 2);
        CHECK.due("byteOf", x.byteOf(1, 63), PackTool.mixed(3, 64)[63] & 255);
    }

    /** What one object is used for never shows in another one. */
    private static void objects() {
        CHECK.sentence("What it is", "an object has its calls for itself");
        PackShelf[] all = new PackShelf[40];
        for (int i = 0; i < all.length; i++) {
            all[i] = new PackShelf();
        }
        for (int round = 0; round < 12; round++) {
            for (int i = 0; i < all.length; i++) {
                CHECK.due("type", all[i].type(i + round * 50L, 2), 2);
                CHECK.due("blob()", all[i].blob(), round);
            }
        }
        for (int i = 0; i < all.length; i++) {
            CHECK.due("byteOf", all[i].byteOf(11, 0) * 256 + all[i].byteOf(11, 1), i + 11 * 50);
            CHECK.due("things()", all[i].things(), 12);
        }
    }
}
