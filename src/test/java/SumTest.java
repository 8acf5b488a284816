import java.util.HexFormat;

/** Terms: names, heads and the sum, sentence by sentence. */
public final class SumTest {
    private static final Check CHECK = new Check();

    public static void main(String[] args) {
        nameIsOfHeadAndContent();
        wordOfEachKind();
        numberInDecimal();
        byteZeroBehindTheHead();
        firstInts();
        fewestZeros();
        lengthInBits();
        secondBlock();
        wrapping();
        bytesOfName();
        CHECK.end();
    }

    private static void nameIsOfHeadAndContent() {
        CHECK.sentence("Terms", "THE NAME of a thing is the SUM of its head and its content");
        PackShelf x = new PackShelf();
        PackTool.blobOf(x, "what is up, doc?");
        CHECK.due("name", PackTool.nameOf(x, 0), hex("bd9dbf5aae1a3862dd1526723246b20206e5fc37"));
        PackTool.blobOf(x, "what is up, doc!");
        CHECK.due("of another content", PackTool.nameOf(x, 1), PackTool.nameOf(3, PackTool.text("what is up, doc!")));
    }

    private static void wordOfEachKind() {
        CHECK.sentence("Terms", "the word commit, tree or blob (its KIND 1, 2, 3) in small letters, a space");
        for (int kind = 1; kind <= 3; kind++) {
            byte[] content = PackTool.text("of one content, three things");
            PackShelf x = read(PackTool.whole(kind, content));
            CHECK.due("kind", x.kind(0), kind);
            CHECK.due("name of kind " + kind, PackTool.nameOf(x, 0), PackTool.nameOf(kind, content));
        }
        PackShelf x = new PackShelf();
        x.blob();
        x.tree();
        x.commit(1, -1, 0);
        CHECK.due("blob", PackTool.nameOf(x, 0), hex("e69de29bb2d1d6434b8b29ae775ad8c2e48c5391"));
        CHECK.due("tree", PackTool.nameOf(x, 1), hex("4b825dc642cb6eb9a060e54bf8d69288fbee4904"));
        CHECK.due("commit", PackTool.nameOf(x, 2), PackTool.nameOf(1, PackTool.contentOf(x, 2)));
    }

    private static void numberInDecimal() {
        CHECK.sentence("Terms", "the number of bytes of the content in decimal");
        for (int kind = 1; kind <= 3; kind++) {
            for (int n : new int[] {0, 1, 9, 10, 11, 19, 20, 90, 99, 100, 101, 109, 110, 119, 120}) {
                byte[] content = PackTool.mixed(kind, n);
                CHECK.due(n + " bytes", PackTool.nameOf(read(PackTool.whole(kind, content)), 0),
                        PackTool.nameOf(kind, content));
            }
        }
    }

    /** Without the byte 0, a digit at the content's start would be taken for one of the number. */
    private static void byteZeroBehindTheHead() {
        CHECK.sentence("Terms", "and a byte 0");
        PackShelf x = new PackShelf();
        PackTool.blobOf(x, new byte[] {0});
        PackTool.blobOf(x, new byte[] {'0'});
        CHECK.due("of a byte 0", PackTool.nameOf(x, 0), PackTool.sha(PackTool.bytes('b', 'l', 'o', 'b', ' ', '1', 0, 0)));
        CHECK.due("of a digit", PackTool.nameOf(x, 1), PackTool.sha(PackTool.bytes('b', 'l', 'o', 'b', ' ', '1', 0, '0')));
    }

    private static void firstInts() {
        CHECK.sentence("Terms, sum", "H0 .. H4 are 1732584193, -271733879, -1732584194, 271733878, -1009589776 at first");
        CHECK.due("of no bytes", sumOf(new byte[0]), hex("da39a3ee5e6b4b0d3255bfef95601890afd80709"));
        CHECK.due("of abc", sumOf(PackTool.text("abc")), hex("a9993e364706816aba3e25717850c26c9cd0d89d"));
        CHECK.due("of abc, a second time", sumOf(PackTool.text("abc")), hex("a9993e364706816aba3e25717850c26c9cd0d89d"));
    }

    /** 55 bytes need no byte 0, 56 need 63: all lengths round the edges of one to three times 64. */
    private static void fewestZeros() {
        CHECK.sentence("Terms, sum", "behind the bytes come 128, as few bytes 0 as make the length 56 modulo 64");
        for (int n = 0; n <= 195; n++) {
            if ((n & 63) >= 53 || (n & 63) <= 3) {
                CHECK.due(n + " bytes", sumOf(PackTool.mixed(4, n)), PackTool.sha(PackTool.mixed(4, n)));
            }
        }
        for (int n = 0; n <= 64; n++) {
            PackShelf x = new PackShelf();
            PackTool.blobOf(x, PackTool.mixed(9, n));
            CHECK.due("name of " + n + " bytes", PackTool.nameOf(x, 0), PackTool.nameOf(3, PackTool.mixed(9, n)));
        }
    }

    /** 31 bytes have 248 bits, the last number that one byte tells; the pack of 16 large things has over 17000. */
    private static void lengthInBits() {
        CHECK.sentence("Terms, sum", "and eight bytes with 8 n, the highest first");
        for (int n : new int[] {1, 30, 31, 32, 33, 255, 256, 257, 300}) {
            CHECK.due(n + " bytes", sumOf(PackTool.repeat(1, n)), PackTool.sha(PackTool.repeat(1, n)));
        }
        PackShelf x = new PackShelf();
        byte[][] things = new byte[16][];
        for (int i = 0; i < things.length; i++) {
            PackTool.blobOf(x, PackTool.mixed(i, 64));
            things[i] = PackTool.whole(3, PackTool.mixed(i, 64));
        }
        byte[] want = PackTool.pack(things);
        CHECK.due("pack()", x.pack(), want.length);
        for (int i = want.length - 20; i < want.length; i++) {
            CHECK.due("packByte(" + i + ")", x.packByte(i), want[i] & 255);
        }
    }

    private static void secondBlock() {
        CHECK.sentence("Terms, sum", "then a .. e are added to H0 .. H4");
        CHECK.due("of two times 64 bytes",
                sumOf(PackTool.text("abcdbcdecdefdefgefghfghighijhijkijkljklmklmnlmnomnopnopq")),
                hex("84983e441c3bd26ebaae4aa1f95129e5e54670f1"));
    }

    private static void wrapping() {
        CHECK.sentence("Terms, sum", "(wrapping)");
        for (int value : new int[] {0, 127, 128, 255}) {
            for (int n : new int[] {20, 64, 140}) {
                CHECK.due(n + " times " + value, sumOf(PackTool.repeat(value, n)), PackTool.sha(PackTool.repeat(value, n)));
            }
        }
    }

    private static void bytesOfName() {
        CHECK.sentence("Terms", "The BYTES of a name are those of its ints, 20 in all, the highest of each first");
        PackShelf x = new PackShelf();
        int blob = x.blob();
        int[] ints = {0xe69de29b, 0xb2d1d643, 0x4b8b29ae, 0x775ad8c2, 0xe48c5391};
        for (int k = 0; k < 5; k++) {
            CHECK.due("name(0, " + k + ")", x.name(blob, k), ints[k]);
        }
        x.entry(0, blob);
        int tree = x.tree();
        CHECK.due("size", x.size(tree), 9 + 20);
        for (int i = 0; i < 20; i++) {
            CHECK.due("byte " + i + " of the name in a tree", x.byteOf(tree, 9 + i), ints[i / 4] >>> (24 - 8 * (i % 4)) & 255);
        }
    }

    /** The sum that seal() writes behind a row. */
    private static byte[] sumOf(byte[] row) {
        PackShelf x = PackTool.loaded(PackTool.join(row, new byte[20]));
        x.seal();
        byte[] sum = new byte[20];
        for (int i = 0; i < sum.length; i++) {
            sum[i] = (byte) x.packByte(row.length + i);
        }
        return sum;
    }

    private static PackShelf read(byte[]... things) {
        PackShelf x = PackTool.loaded(PackTool.pack(things));
        CHECK.due("unpack()", x.unpack(), things.length);
        return x;
    }

    private static byte[] hex(String digits) {
        return HexFormat.of().parseHex(digits);
    }
}
