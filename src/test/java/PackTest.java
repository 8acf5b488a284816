import java.util.Arrays;
import java.util.zip.DataFormatException;
import java.util.zip.Inflater;

/** Promises 16 to 21: the pack byte for byte, and how it can be changed. */
public final class PackTest {
    private static final Check CHECK = new Check();

    public static void main(String[] args) throws DataFormatException {
        empty();
        order();
        inflates();
        sizesOfMarks();
        copies();
        firstPlaceOfLongest();
        newBytes();
        asLongAsContent();
        fourInARow();
        kindsApart();
        distances();
        packAnew();
        packTwice();
        sixteenThings();
        alter();
        cut();
        seal();
        CHECK.end();
    }

    private static void empty() {
        CHECK.part("promise 16, nothing in the store");
        PackShelf x = new PackShelf();
        isPack(x, PackTool.pack());
        CHECK.due("packed()", x.packed(), 32);
    }

    private static void order() {
        CHECK.part("promise 16, order");
        PackShelf x = new PackShelf();
        PackTool.blobOf(x, "one");
        x.tree();
        PackTool.blobOf(x, "22");
        x.commit(1, -1, 5);
        x.entry(0, 0);
        x.tree();
        byte[] commit = content(x, 3);
        byte[] tree = content(x, 4);
        isPack(x, PackTool.pack(PackTool.whole(1, commit), PackTool.whole(2, ""), PackTool.whole(2, tree),
                PackTool.whole(3, "one"), PackTool.whole(3, "22")));
    }

    private static void inflates() throws DataFormatException {
        CHECK.part("wrapped data");
        PackShelf x = new PackShelf();
        byte[] row = PackTool.repeat(255, 64);
        PackTool.blobOf(x, row);
        int length = x.pack();
        byte[] pack = PackTool.packOf(x);
        Inflater inflater = new Inflater();
        inflater.setInput(pack, 14, length - 34);
        byte[] out = new byte[200];
        CHECK.due("bytes that come out", inflater.inflate(out), 64);
        CHECK.due("finished", inflater.finished(), true);
        CHECK.due("bytes left", inflater.getRemaining(), 0);
        CHECK.due("the content", Arrays.equals(Arrays.copyOf(out, 64), row), true);
        inflater.end();
    }

    private static void sizesOfMarks() {
        CHECK.part("marks");
        int[] sizes = {0, 1, 15, 16, 17, 31, 32, 63, 64};
        for (int n : sizes) {
            PackShelf x = new PackShelf();
            PackTool.blobOf(x, PackTool.repeat(9, n));
            isPack(x, PackTool.pack(PackTool.whole(3, PackTool.repeat(9, n))));
        }
        PackShelf y = PackTool.loaded(PackTool.pack(PackTool.whole(2, PackTool.repeat(7, 120))));
        y.unpack();
        isPack(y, PackTool.pack(PackTool.whole(2, PackTool.repeat(7, 120))));
    }

    /** A row of four bytes is copied, one of three is new. */
    private static void copies() {
        CHECK.part("differences, copies");
        String first = "abcdefghijklmnopqrstuvwxyz";
        isDifference(first, "cdefXopqYrstuvwxyz",
                PackTool.bytes(26, 18, 145, 2, 4, 5, 'X', 'o', 'p', 'q', 'Y', 145, 17, 9));
        isDifference(first, "ijklmnopqabcdefgh", PackTool.bytes(26, 17, 145, 8, 9, 145, 0, 8));
        isDifference(first, "mnopqrstuvwxyz-----", PackTool.bytes(26, 19, 145, 12, 14, 5, '-', '-', '-', '-', '-'));
    }

    private static void firstPlaceOfLongest() {
        CHECK.part("differences, the longest and its first place");
        isDifference("abcdXabcdefYabcdefZabcd", "abcdefghabcdQabcdefZa",
                PackTool.bytes(23, 21, 145, 5, 6, 2, 'g', 'h', 145, 0, 4, 1, 'Q', 145, 12, 8));
        isDifference("aaaaaaaaaa", "aaaaaaaaaaaaaaaaaaaaaaa",
                PackTool.bytes(10, 23, 145, 0, 10, 145, 0, 10, 3, 'a', 'a', 'a'));
    }

    private static void newBytes() {
        CHECK.part("differences, new bytes");
        isDifference("0123456789", "ab0123456789cd", PackTool.bytes(10, 14, 2, 'a', 'b', 145, 0, 10, 2, 'c', 'd'));
        isDifference("01234567890", "01234567890e", PackTool.bytes(11, 12, 145, 0, 11, 1, 'e'));
    }

    /** A difference that is as long as the content is not taken; one byte shorter is. */
    private static void asLongAsContent() {
        CHECK.part("differences, no shorter than the content");
        isWhole("abcdefghi", "abcde");
        isDifference("abcdefghi", "abcdef", PackTool.bytes(9, 6, 145, 0, 6));
        isWhole("abcdefghi", "abcdefX");
        isDifference("abcdefghi", "abcdefgX", PackTool.bytes(9, 8, 145, 0, 7, 1, 'X'));
        isWhole("abcdefghi", "");
        isWhole("", "abcdefghi");
    }

    private static void fourInARow() {
        CHECK.part("differences, three in a row");
        PackShelf x = new PackShelf();
        byte[][] things = new byte[10][];
        String base = "0123456789abcdef";
        for (int i = 0; i < things.length; i++) {
            String row = base + (char) ('p' + i);
            PackTool.blobOf(x, row);
            byte[] steps = PackTool.bytes(17, 17, 145, 0, 16, 1, 'p' + i);
            things[i] = i % 4 == 0 ? PackTool.whole(3, row) : PackTool.difference(i % 4 == 1 ? 30 : 20, steps);
        }
        isPack(x, PackTool.pack(things));
    }

    /** A blob is no difference from a tree with nearly the same content. */
    private static void kindsApart() {
        CHECK.part("differences, kinds");
        byte[] pack = PackTool.pack(PackTool.whole(1, "0123456789ab"), PackTool.whole(2, "0123456789ab"),
                PackTool.whole(3, "0123456789ab"));
        PackShelf x = PackTool.loaded(pack);
        CHECK.due("unpack()", x.unpack(), 3);
        isPack(x, pack);
    }

    private static void distances() {
        CHECK.part("distances");
        for (int n = 113; n <= 120; n++) {
            byte[] first = PackTool.repeat('k', n);
            for (int i = 0; i < n; i++) {
                first[i] = (byte) (i * 37);
            }
            byte[] second = Arrays.copyOf(first, 100);
            byte[] pack = PackTool.pack(PackTool.whole(3, first), PackTool.whole(3, second));
            PackShelf x = PackTool.loaded(pack);
            CHECK.due("unpack()", x.unpack(), 2);
            CHECK.due("pack()", x.pack(), 12 + n + 13 + (n + 13 < 128 ? 1 : 2) + 1 + 11 + 5 + 20);
            byte[] want = PackTool.difference(n + 13, PackTool.bytes(n, 100, 145, 0, 100));
            for (int i = 0; i < want.length; i++) {
                CHECK.due("byte " + i, x.packByte(12 + n + 13 + i), want[i] & 255);
            }
        }
    }

    private static void packAnew() {
        CHECK.part("promise 16, a second time");
        PackShelf x = new PackShelf();
        PackTool.blobOf(x, "a");
        PackTool.blobOf(x, "bb");
        x.pack();
        x.cut(3);
        x.sweep();
        CHECK.due("packed()", x.packed(), 56);
        isPack(x, PackTool.pack());
        CHECK.due("packed()", x.packed(), 32);
    }

    private static void packTwice() {
        CHECK.part("promise 16, twice the same");
        PackShelf x = new PackShelf();
        PackTool.blobOf(x, "0123456789abcdef");
        PackTool.blobOf(x, "0123456789abcdeg");
        x.pack();
        byte[] first = PackTool.packOf(x);
        isPack(x, first);
    }

    private static void sixteenThings() {
        CHECK.part("promise 16, sixteen things");
        PackShelf x = new PackShelf();
        byte[][] things = new byte[16][];
        for (int i = 0; i < things.length; i++) {
            byte[] row = new byte[64];
            for (int k = 0; k < row.length; k++) {
                row[k] = (byte) (k * (2 * i + 1) + i);
            }
            PackTool.blobOf(x, row);
            things[i] = PackTool.whole(3, row);
        }
        byte[] want = PackTool.pack(things);
        CHECK.due("pack()", x.pack(), want.length);
        for (int i = 0; i < want.length; i += 5) {
            CHECK.due("packByte(" + i + ")", x.packByte(i), want[i] & 255);
        }
        CHECK.due("all go", x.sweep(), 16);
        CHECK.due("all come", x.unpack(), 16);
        CHECK.due("the last byte", x.byteOf(15, 63), (byte) (63 * 31 + 15) & 255);
    }

    private static void alter() {
        CHECK.part("promises 17 to 19");
        PackShelf x = new PackShelf();
        CHECK.due("pack()", x.pack(), 32);
        CHECK.due("byte -1", x.alter(-1, 0), false);
        CHECK.due("byte 32", x.alter(32, 0), false);
        CHECK.due("byte highest", x.alter(Integer.MAX_VALUE, 0), false);
        CHECK.due("value -1", x.alter(4, -1), false);
        CHECK.due("value 256", x.alter(4, 256), false);
        CHECK.due("not altered", x.packByte(4), 0);
        CHECK.due("value 255", x.alter(31, 255), true);
        CHECK.due("value 0", x.alter(0, 0), true);
        CHECK.due("byte 31", x.packByte(31), 255);
        CHECK.due("byte 0", x.packByte(0), 0);
        CHECK.due("byte 1", x.packByte(1), 65);
        CHECK.due("byte -1", x.packByte(-1), PackShelf.BAD);
        CHECK.due("byte 32", x.packByte(32), PackShelf.BAD);
        CHECK.due("byte lowest", x.packByte(Integer.MIN_VALUE), PackShelf.BAD);
        CHECK.due("packed()", x.packed(), 32);
    }

    private static void cut() {
        CHECK.part("promise 20");
        PackShelf x = new PackShelf();
        x.pack();
        CHECK.due("0", x.cut(0), false);
        CHECK.due("-1", x.cut(-1), false);
        CHECK.due("33", x.cut(33), false);
        CHECK.due("highest", x.cut(Integer.MAX_VALUE), false);
        CHECK.due("lowest", x.cut(Integer.MIN_VALUE), false);
        CHECK.due("packed()", x.packed(), 32);
        CHECK.due("1", x.cut(1), true);
        CHECK.due("packed()", x.packed(), 31);
        CHECK.due("byte 31", x.packByte(31), PackShelf.BAD);
        CHECK.due("alter(31, 0)", x.alter(31, 0), false);
        CHECK.due("byte 0", x.packByte(0), 80);
        CHECK.due("32", x.cut(32), false);
        CHECK.due("all", x.cut(31), true);
        CHECK.due("packed()", x.packed(), 0);
        CHECK.due("no pack", x.unpack(), PackShelf.BAD);
        CHECK.due("no pack", x.cut(1), false);
        CHECK.due("no pack", x.seal(), false);
        CHECK.due("pack()", x.pack(), 32);
    }

    private static void seal() {
        CHECK.part("promise 21");
        PackShelf x = new PackShelf();
        x.pack();
        x.alter(11, 9);
        CHECK.due("seal()", x.seal(), true);
        CHECK.due("packed()", x.packed(), 32);
        hasBytes(x, PackTool.sealed(PackTool.head(9)));
        x.cut(12);
        CHECK.due("20 bytes", x.seal(), true);
        hasBytes(x, PackTool.sealed(new byte[0]));
        x.cut(1);
        CHECK.due("19 bytes", x.seal(), false);
        CHECK.due("packed()", x.packed(), 19);
        // The padding of the sum is longest and shortest at these lengths.
        for (int n = 110; n <= 130; n++) {
            byte[] row = PackTool.repeat(n, n);
            PackShelf y = PackTool.loaded(PackTool.join(row, new byte[20]));
            CHECK.due("seal()", y.seal(), true);
            hasBytes(y, PackTool.sealed(row));
        }
    }

    private static void isDifference(String first, String second, byte[] steps) {
        byte[] whole = PackTool.whole(3, first);
        isPackOf(first, second, PackTool.pack(whole, PackTool.difference(whole.length, steps)));
    }

    private static void isWhole(String first, String second) {
        isPackOf(first, second, PackTool.pack(PackTool.whole(3, first), PackTool.whole(3, second)));
    }

    private static void isPackOf(String first, String second, byte[] pack) {
        PackShelf x = new PackShelf();
        PackTool.blobOf(x, first);
        PackTool.blobOf(x, second);
        isPack(x, pack);
        x.sweep();
        CHECK.due("read again", x.unpack(), 2);
        CHECK.due("the same content", Arrays.equals(content(x, 1), PackTool.text(second)), true);
    }

    private static void isPack(PackShelf x, byte[] want) {
        CHECK.due("pack()", x.pack(), want.length);
        hasBytes(x, want);
    }

    private static void hasBytes(PackShelf x, byte[] want) {
        CHECK.due("packed()", x.packed(), want.length);
        for (int i = 0; i < want.length; i++) {
            CHECK.due("packByte(" + i + ")", x.packByte(i), want[i] & 255);
        }
    }

    private static byte[] content(PackShelf x, int thing) {
        byte[] row = new byte[x.size(thing)];
        for (int i = 0; i < row.length; i++) {
            row[i] = (byte) x.byteOf(thing, i);
        }
        return row;
    }
}
