import java.util.Arrays;

/** Terms: how a pack is written, sentence by sentence. */
public final class WritingTest {
    private static final Check CHECK = new Check();
    /** Sixteen bytes that both contents share, so that a difference is shorter. */
    private static final String TAIL = "0123456789ABCDEF";

    public static void main(String[] args) {
        begins();
        numberOfThings();
        sumBehind();
        kindsInOrder();
        numbersInOrder();
        fromTheOneBefore();
        ofTheSameKind();
        thirdInARow();
        rowBeginsAnew();
        fewerBytes();
        markOfWhole();
        markOfDifference();
        distanceOfOneByte();
        distanceOfTwoBytes();
        distanceFromMarkToMark();
        wrappedHead();
        wrappedSums();
        wrappedModulo();
        bothLengths();
        fourBytesAreCopied();
        longestRow();
        firstPlace();
        notBeyondTheEnds();
        furthestPlace();
        fromHereOn();
        newBytesTogether();
        manyNewBytes();
        largestPack();
        CHECK.end();
    }

    private static void begins() {
        CHECK.sentence("Terms, pack", "a row of bytes: 80 65 67 75 0 0 0 2");
        PackShelf x = new PackShelf();
        x.pack();
        int[] want = {80, 65, 67, 75, 0, 0, 0, 2, 0, 0, 0, 0};
        for (int i = 0; i < want.length; i++) {
            CHECK.due("packByte(" + i + ")", x.packByte(i), want[i]);
        }
    }

    private static void numberOfThings() {
        CHECK.sentence("Terms, pack", "four bytes with the number of things (the highest first)");
        PackShelf x = new PackShelf();
        for (int n = 0; n <= 16; n++) {
            x.pack();
            CHECK.due("packByte(8)", x.packByte(8), 0);
            CHECK.due("packByte(9)", x.packByte(9), 0);
            CHECK.due("packByte(10)", x.packByte(10), 0);
            CHECK.due("packByte(11)", x.packByte(11), n);
            x.type(n, 1);
            x.blob();
        }
    }

    private static void sumBehind() {
        CHECK.sentence("Terms, pack", "and the bytes of the sum of all before");
        PackShelf x = new PackShelf();
        for (int n = 0; n < 4; n++) {
            x.pack();
            byte[] pack = PackTool.packOf(x);
            CHECK.due("the pack of " + n, pack, PackTool.sealed(Arrays.copyOf(pack, pack.length - 20)));
            PackTool.blobOf(x, PackTool.mixed(n, 9));
        }
    }

    private static void kindsInOrder() {
        CHECK.sentence("Terms, pack", "Things come with commits first, then trees, then blobs");
        PackShelf x = new PackShelf();
        PackTool.blobOf(x, "b");
        x.tree();
        x.commit(1, -1, 0);
        isPack(x, PackTool.whole(1, PackTool.contentOf(x, 2)), PackTool.whole(2, ""), PackTool.whole(3, "b"));
    }

    private static void numbersInOrder() {
        CHECK.sentence("Terms, pack", "each kind in the order of its numbers");
        byte[][] read = {PackTool.whole(2, "t2"), PackTool.whole(1, "c3"), PackTool.whole(3, "b2"),
            PackTool.whole(1, "c1"), PackTool.whole(2, "t1"), PackTool.whole(3, "b1"), PackTool.whole(1, "c2")};
        isPackOfRead(read, PackTool.whole(1, "c3"), PackTool.whole(1, "c1"), PackTool.whole(1, "c2"), PackTool.whole(2, "t2"),
                PackTool.whole(2, "t1"), PackTool.whole(3, "b2"), PackTool.whole(3, "b1"));
    }

    private static void fromTheOneBefore() {
        CHECK.sentence("Terms, pack", "as a DIFFERENCE from the one right before it");
        PackShelf x = new PackShelf();
        PackTool.blobOf(x, TAIL);
        PackTool.blobOf(x, "quite another one");
        PackTool.blobOf(x, TAIL + "!");
        isPack(x, PackTool.whole(3, TAIL), PackTool.whole(3, "quite another one"), PackTool.whole(3, TAIL + "!"));
    }

    private static void ofTheSameKind() {
        CHECK.sentence("Terms, pack", "if that is of the same kind");
        byte[][] things = {PackTool.whole(1, TAIL), PackTool.whole(2, TAIL + "t"), PackTool.whole(3, TAIL + "b")};
        isPackOfRead(things, things);
        byte[] steps = PackTool.bytes(16, 17, 145, 0, 16, 1, '+');
        for (int kind = 1; kind <= 3; kind++) {
            byte[] whole = PackTool.whole(kind, TAIL);
            isPackOfRead(of(whole, PackTool.whole(kind, TAIL + "+")), whole, PackTool.difference(whole.length, steps));
        }
    }

    private static void thirdInARow() {
        CHECK.sentence("Terms, pack", "is not itself the third difference in a row");
        for (int n = 1; n <= 16; n++) {
            PackShelf x = new PackShelf();
            byte[][] things = new byte[n][];
            for (int i = 0; i < n; i++) {
                PackTool.blobOf(x, TAIL + (char) ('a' + i));
                things[i] = i % 4 == 0 ? PackTool.whole(3, TAIL + (char) ('a' + i))
                        : PackTool.difference(things[i - 1].length, PackTool.bytes(17, 17, 145, 0, 16, 1, 'a' + i));
            }
            isPack(x, things);
        }
    }

    /** A thing that is written whole ends the row: three differences may follow again. */
    private static void rowBeginsAnew() {
        CHECK.sentence("Terms, pack", "the third difference in a row");
        isWritten("33333333", "00011111", "wddwdddw");
        isWritten("33333333", "01111111", "wwdddwdd");
        isWritten("22233333", "00000000", "wddwdddw");
        isWritten("12222223", "00000000", "wwdddwdw");
        isWritten("11112222", "00000000", "wdddwddd");
    }

    /** Things of these kinds; those with the same digit in alike share all but their last byte. */
    private static void isWritten(String kinds, String alike, String written) {
        byte[][] things = new byte[kinds.length()][];
        for (int i = 0; i < things.length; i++) {
            byte[] content = PackTool.join(PackTool.mixed(alike.charAt(i), 16), PackTool.bytes('A' + i));
            things[i] = written.charAt(i) == 'w' ? PackTool.whole(kinds.charAt(i) - '0', content)
                    : PackTool.difference(things[i - 1].length, PackTool.bytes(17, 17, 145, 0, 16, 1, 'A' + i));
        }
        // Read as they are due to be written: so the pack is short enough to be brought by calls.
        isPackOfRead(things, things);
    }

    private static void fewerBytes() {
        CHECK.sentence("Terms, pack", "and the difference has fewer bytes than the content");
        isWhole("abcdefghi", "abcde");
        isDifference("abcdefghi", "abcdef", PackTool.bytes(9, 6, 145, 0, 6));
        isWhole("abcdefghi", "");
        isWhole("", "abcdefghi");
        isWhole("abcdefghi", "ABCDEFGHI");
        isWhole("abcdefghi", "abcdefX");
        isDifference("abcdefghi", "abcdefgX", PackTool.bytes(9, 8, 145, 0, 7, 1, 'X'));
    }

    private static void markOfWhole() {
        CHECK.sentence("Terms, mark", "a byte n & 15, 16 times the type more, and 128 more if n is more than 15");
        int[][] marks = {{0, 0}, {1, 1}, {14, 14}, {15, 15}, {16, 128, 1}, {17, 129, 1}, {31, 143, 1}, {32, 128, 2},
            {63, 143, 3}, {64, 128, 4}, {119, 135, 7}, {120, 136, 7}};
        for (int kind = 1; kind <= 3; kind++) {
            for (int[] mark : marks) {
                PackShelf x = read(PackTool.whole(kind, PackTool.mixed(2, mark[0])));
                x.pack();
                CHECK.due("first byte for " + mark[0], x.packByte(12), mark[1] + 16 * kind);
                CHECK.due("byte behind it for " + mark[0], x.packByte(13), mark.length == 3 ? mark[2] : 120);
                CHECK.due("packed()", x.packed(), 12 + mark.length - 1 + 11 + mark[0] + 20);
            }
        }
    }

    /** Differences of 15, 16 and 17 bytes. */
    private static void markOfDifference() {
        CHECK.sentence("Terms, mark", "a type (the kind, or 6 for a difference) and the number of bytes of data, n");
        int[][] marks = {{96 + 14}, {96 + 15}, {128 + 96, 1}, {128 + 96 + 1, 1}};
        for (int fresh = 8; fresh <= 11; fresh++) {
            PackShelf x = new PackShelf();
            PackTool.blobOf(x, TAIL);
            PackTool.blobOf(x, TAIL + "abcdefghijklmn".substring(0, fresh));
            x.pack();
            int[] mark = marks[fresh - 8];
            int start = 12 + 2 + 11 + 16;
            CHECK.due("mark for " + (6 + fresh), x.packByte(start), mark[0]);
            CHECK.due("behind it", x.packByte(start + 1), mark.length == 2 ? mark[1] : 29);
            CHECK.due("packed()", x.packed(), start + mark.length + 1 + 11 + 6 + fresh + 20);
        }
    }

    private static void distanceOfOneByte() {
        CHECK.sentence("Terms, distance", "A distance d is one byte if it is less than 128");
        hasDistance(126, 126);
        hasDistance(127, 127);
    }

    private static void distanceOfTwoBytes() {
        CHECK.sentence("Terms, distance", "otherwise two: 128 + (d - 128) / 128 and (d - 128) % 128");
        hasDistance(128, 128, 0);
        hasDistance(129, 128, 1);
        hasDistance(133, 128, 5);
    }

    /** A first thing so long that the second one is so far behind it. */
    private static void hasDistance(int distance, int... want) {
        byte[] first = PackTool.mixed(8, distance - 13);
        PackShelf x = read(PackTool.whole(3, first), PackTool.whole(3, Arrays.copyOf(first, 9)));
        x.pack();
        int start = 12 + distance;
        CHECK.due("mark", x.packByte(start), 96 + 5);
        for (int i = 0; i < want.length; i++) {
            CHECK.due("distance " + distance + ", byte " + i, x.packByte(start + 1 + i), want[i]);
        }
        CHECK.due("wrapped data begins", x.packByte(start + 1 + want.length), 120);
    }

    private static void distanceFromMarkToMark() {
        CHECK.sentence("Terms, distance", "from the first byte of the mark back to the first byte of that of the other one");
        byte[] first = PackTool.mixed(8, 118);
        byte[] third = PackTool.join(first, PackTool.bytes('!', '?'));
        byte[][] things = {PackTool.whole(1, "in front"), PackTool.whole(3, first),
            PackTool.difference(131, PackTool.bytes(118, 119, 145, 0, 118, 1, '!')),
            PackTool.difference(1 + 2 + 11 + 7, PackTool.bytes(119, 120, 145, 0, 119, 1, '?'))};
        CHECK.due("content", PackTool.contentOf(read(things), 3), third);
        isPackOfRead(things, things);
    }

    private static void wrappedHead() {
        CHECK.sentence("Terms, wrapped", "120 1 1, two bytes with n (the lower one first), two with 65535 - n, the data");
        for (int n : new int[] {0, 1, 15, 16, 64, 120}) {
            byte[] data = PackTool.mixed(11, n);
            PackShelf x = read(PackTool.whole(3, data));
            x.pack();
            int place = n > 15 ? 14 : 13;
            int[] want = {120, 1, 1, n, 0, 255 - n, 255};
            for (int i = 0; i < want.length; i++) {
                CHECK.due("byte " + i + " for " + n, x.packByte(place + i), want[i]);
            }
            for (int i = 0; i < n; i++) {
                CHECK.due("data " + i, x.packByte(place + 7 + i), data[i] & 255);
            }
        }
    }

    private static void wrappedSums() {
        CHECK.sentence("Terms, wrapped", "four bytes b, b, a, a (of each the higher one first): a is 1 plus the sum of the "
                + "bytes; b is the sum of all values that a had behind a byte");
        hasSums(new byte[0], 0, 0, 0, 1);
        hasSums(PackTool.bytes(0), 0, 1, 0, 1);
        hasSums(PackTool.bytes(254), 0, 255, 0, 255);
        hasSums(PackTool.bytes(255), 1, 0, 1, 0);
        hasSums(PackTool.bytes(255, 1), 2, 1, 1, 1);
        hasSums(PackTool.repeat(255, 64), 530464 % 65521 >> 8, 530464 % 65521 & 255, 16321 >> 8, 16321 & 255);
    }

    private static void wrappedModulo() {
        CHECK.sentence("Terms, wrapped", "modulo 65521");
        hasSums(withSum(65520), 255, 240);
        hasSums(withSum(65521), 0, 0);
        hasSums(withSum(65522), 0, 1);
        hasSums(withSum(2 * 65521 - 1), 255, 240);
        hasSums(withSum(2 * 65521), 0, 0);
        hasSums(withSum(2 * 65521 + 300), 1, 44);
    }

    /** The first of the four bytes behind the data of a blob. */
    private static void hasSums(byte[] data, int... want) {
        PackShelf x = new PackShelf();
        PackTool.blobOf(x, data);
        int place = x.pack() - 24;
        for (int i = 0; i < want.length; i++) {
            CHECK.due("byte " + i + " behind " + data.length, x.packByte(place + i), want[i]);
        }
        CHECK.due("read again", x.unpack(), 0);
    }

    /** 64 bytes whose b is so large, before it is taken modulo anything. */
    private static byte[] withSum(int b) {
        byte[] row = new byte[64];
        int left = b - row.length;
        for (int i = 0; i < row.length; i++) {
            int weight = row.length - i;
            int value = Math.min(255, left / weight);
            row[i] = (byte) value;
            left -= value * weight;
        }
        return row;
    }

    private static void bothLengths() {
        CHECK.sentence("Terms, difference", "the number of bytes of x, that of y");
        isDifference(TAIL, "x" + TAIL, PackTool.bytes(16, 17, 1, 'x', 145, 0, 16));
        isDifference("x" + TAIL, TAIL, PackTool.bytes(17, 16, 145, 1, 16));
        byte[] most = PackTool.mixed(1, 120);
        byte[] fewer = Arrays.copyOf(most, 119);
        isPackOfRead(of(PackTool.whole(2, most), PackTool.whole(2, fewer)), PackTool.whole(2, most),
                PackTool.difference(133, PackTool.bytes(120, 119, 145, 0, 119)));
        isPackOfRead(of(PackTool.whole(2, fewer), PackTool.whole(2, most)), PackTool.whole(2, fewer),
                PackTool.difference(132, PackTool.bytes(119, 120, 145, 0, 119, 1, most[119])));
    }

    private static void fourBytesAreCopied() {
        CHECK.sentence("Terms, difference", "if it has 4 bytes or more, is COPIED: 145, its place in x, its length; "
                + "else one byte is NEW");
        isDifference("wxyz" + TAIL, "wxy!" + TAIL, PackTool.bytes(20, 20, 4, 'w', 'x', 'y', '!', 145, 4, 16));
        isDifference("wxyz" + TAIL, "wxyz!" + TAIL, PackTool.bytes(20, 21, 145, 0, 4, 1, '!', 145, 4, 16));
        isDifference("wxyzv" + TAIL, "wxyzv!" + TAIL, PackTool.bytes(21, 22, 145, 0, 5, 1, '!', 145, 5, 16));
        isDifference("wxyz" + TAIL, TAIL + "!xyz", PackTool.bytes(20, 20, 145, 4, 16, 4, '!', 'x', 'y', 'z'));
        isDifference("wxyz" + TAIL, TAIL + "!wxyz", PackTool.bytes(20, 21, 145, 4, 16, 1, '!', 145, 0, 4));
    }

    private static void longestRow() {
        CHECK.sentence("Terms, difference", "the longest row of bytes from here on that stands in x too");
        isDifference("abcd-abcde-abcdefgh-abcdefg-abcdef", "abcdefgh!!", PackTool.bytes(34, 10, 145, 11, 8, 2, '!', '!'));
        isDifference("abcdefgh-abcdefg", "abcdefgh!!", PackTool.bytes(16, 10, 145, 0, 8, 2, '!', '!'));
        isDifference("abcd-abcdefgh", "abcdefgh!!", PackTool.bytes(13, 10, 145, 5, 8, 2, '!', '!'));
    }

    private static void firstPlace() {
        CHECK.sentence("Terms, difference", "at the first place where one so long stands");
        isDifference("--abcdefgh-abcdefgh-abcdefgh", "abcdefgh!!", PackTool.bytes(28, 10, 145, 2, 8, 2, '!', '!'));
        isDifference("aaaaaaaaaaaa", "aaaaaaaab!!", PackTool.bytes(12, 11, 145, 0, 8, 3, 'b', '!', '!'));
    }

    private static void notBeyondTheEnds() {
        CHECK.sentence("Terms, difference", "that stands in x too");
        isDifference("--abcdefgh", "abcdefghabcdefgh", PackTool.bytes(10, 16, 145, 2, 8, 145, 2, 8));
        isDifference("abababab", "abababababababababab", PackTool.bytes(8, 20, 145, 0, 8, 145, 0, 8, 145, 0, 4));
        isDifference("abcdefghij", "abcdefghijabcdefg", PackTool.bytes(10, 17, 145, 0, 10, 145, 0, 7));
    }

    private static void furthestPlace() {
        CHECK.sentence("Terms, difference", "its place in x, its length");
        byte[] x = PackTool.mixed(1, 120);
        byte[] y = PackTool.join(Arrays.copyOfRange(x, 116, 120), Arrays.copyOf(x, 110));
        isPackOfRead(of(PackTool.whole(3, x), PackTool.whole(3, y)), PackTool.whole(3, x),
                PackTool.difference(133, PackTool.bytes(120, 114, 145, 116, 4, 145, 0, 110)));
        byte[] z = PackTool.join(Arrays.copyOfRange(x, 117, 120), Arrays.copyOf(x, 110));
        isPackOfRead(of(PackTool.whole(3, x), PackTool.whole(3, z)), PackTool.whole(3, x),
                PackTool.difference(133, PackTool.bytes(120, 113, 3, x[117], x[118], x[119], 145, 0, 110)));
    }

    /** A row is taken where it begins, though one byte later a longer one would begin. */
    private static void fromHereOn() {
        CHECK.sentence("Terms, difference", "from y's first byte on: the longest row of bytes from here on");
        isDifference("abcd--bcdefghijklm", "abcdefghijklm", PackTool.bytes(18, 13, 145, 0, 4, 145, 9, 9));
        isDifference("abc--bcdefghijklm", "abcdefghijklm", PackTool.bytes(17, 13, 1, 'a', 145, 5, 12));
    }

    private static void newBytesTogether() {
        CHECK.sentence("Terms, difference", "New bytes that follow one another are put together: their number, and they");
        isDifference(TAIL, "a" + TAIL, PackTool.bytes(16, 17, 1, 'a', 145, 0, 16));
        isDifference(TAIL, "ab" + TAIL + "cde", PackTool.bytes(16, 21, 2, 'a', 'b', 145, 0, 16, 3, 'c', 'd', 'e'));
        isDifference(TAIL, "01234567!?89ABCDEF", PackTool.bytes(16, 18, 145, 0, 8, 2, '!', '?', 145, 8, 8));
        isDifference(TAIL, "01234567ABCDEF01234567", PackTool.bytes(16, 22, 145, 0, 8, 145, 10, 6, 145, 0, 8));
    }

    private static void manyNewBytes() {
        CHECK.sentence("Terms, difference", "their number");
        byte[] x = PackTool.mixed(1, 20);
        for (int n : new int[] {15, 16, 17, 99, 100}) {
            byte[] fresh = PackTool.mixed(60, n);
            byte[] y = PackTool.join(fresh, x);
            byte[] steps = PackTool.join(PackTool.bytes(20, 20 + n, n), fresh, PackTool.bytes(145, 0, 20));
            isPackOfRead(of(PackTool.whole(1, x), PackTool.whole(1, y)), PackTool.whole(1, x), PackTool.difference(33, steps));
        }
    }

    /**
     * Sixteen things of 120 bytes, none a difference: the largest pack of all. They are read one by one from a small
     * pack that is altered: six contents, each as a commit, a tree and a blob.
     */
    private static void largestPack() {
        CHECK.sentence("Terms", "at most 16 things of at most 120 bytes, each written whole");
        byte[] content = PackTool.mixed(3, 120);
        PackShelf x = PackTool.loaded(PackTool.pack(PackTool.whole(1, content)));
        byte[][] things = new byte[16][];
        int[] places = {0, 6, 11};
        for (int n = 0; n < 16; n++) {
            int kind = 1 + n % 3;
            if (n % 3 == 0 && n > 0) {
                changeEveryFifth(x, content);
            }
            x.alter(12, 128 + 16 * kind + 8);
            x.seal();
            CHECK.due("unpack()", x.unpack(), 1);
            things[places[kind - 1]++] = PackTool.whole(kind, content);
        }
        byte[] want = PackTool.pack(things);
        CHECK.due("pack()", x.pack(), 12 + 16 * (2 + 11 + 120) + 20);
        for (int i = want.length - 20; i < want.length; i++) {
            CHECK.due("packByte(" + i + ")", x.packByte(i), want[i] & 255);
        }
        CHECK.due("all are there", x.unpack(), 0);
        CHECK.due("all go", x.sweep(), 16);
        CHECK.due("all come", x.unpack(), 16);
        CHECK.due("the last byte", x.byteOf(15, 119), things[15][2 + 7 + 119] & 255);
    }

    private static void changeEveryFifth(PackShelf x, byte[] content) {
        for (int i = 4; i < content.length; i += 5) {
            content[i] += (byte) 100;
            x.alter(14 + 7 + i, content[i] & 255);
        }
        byte[] wrapped = PackTool.wrap(content);
        for (int i = 0; i < 4; i++) {
            x.alter(14 + 7 + 120 + i, wrapped[7 + 120 + i] & 255);
        }
    }

    private static void isDifference(String first, String second, byte[] steps) {
        byte[] whole = PackTool.whole(3, first);
        isPackOf(first, second, whole, PackTool.difference(whole.length, steps));
    }

    private static void isWhole(String first, String second) {
        isPackOf(first, second, PackTool.whole(3, first), PackTool.whole(3, second));
    }

    private static void isPackOf(String first, String second, byte[]... things) {
        PackShelf x = new PackShelf();
        PackTool.blobOf(x, first);
        PackTool.blobOf(x, second);
        isPack(x, things);
        x.sweep();
        CHECK.due("read again", x.unpack(), 2);
        CHECK.due("the second content", PackTool.contentOf(x, 1), PackTool.text(second));
    }

    private static void isPack(PackShelf x, byte[]... things) {
        byte[] want = PackTool.pack(things);
        CHECK.due("pack()", x.pack(), want.length);
        CHECK.due("the pack", PackTool.packOf(x), want);
    }

    /** The same of things that are read, which leaves few calls. */
    private static void isPackOfRead(byte[][] read, byte[]... things) {
        byte[] want = PackTool.pack(things);
        CHECK.due("pack()", read(read).pack(), want.length);
        CHECK.due("the pack", PackTool.packOf(() -> packedAnew(read)), want);
    }

    private static PackShelf packedAnew(byte[]... things) {
        PackShelf x = read(things);
        x.pack();
        return x;
    }

    private static byte[][] of(byte[]... things) {
        return things;
    }

    private static PackShelf read(byte[]... things) {
        PackShelf x = PackTool.loaded(PackTool.pack(things));
        CHECK.due("unpack()", x.unpack(), things.length);
        return x;
    }
}
