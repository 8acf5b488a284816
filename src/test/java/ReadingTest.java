import java.util.Arrays;

/** Terms, READING: each thing that can be wrong with a pack, where it is told, and which one is told first. */
public final class ReadingTest {
    private static final Check CHECK = new Check();
    private static final String WHERE = "Terms, reading";
    private static final byte[] TEN = PackTool.whole(3, "0123456789");
    private static final byte[] FOUR_OF_TEN = PackTool.bytes(10, 4, 145, 0, 4);

    public static void main(String[] args) {
        fewerThan32();
        beginning();
        lastTwenty();
        moreThan16Told();
        withoutASign();
        endsAtEachByte();
        endsBeforeTheLastTwenty();
        typeIsNone();
        typeAtTheFirstByte();
        largeMarks();
        largeBehindTheMark();
        marksOfManyBytes();
        baseBehindTheDistance();
        baseIsAFirstByte();
        baseIsBefore();
        distanceWhateverYIs();
        distanceOf383();
        wrapOfEachByte();
        wrapByteByByte();
        wrapModulo();
        differenceBehindTheWrappedData();
        lengthOfTheOther();
        lengthOfWhatComesOut();
        lengthsMissing();
        byteThatBegins();
        copiedInFull();
        newInFull();
        atMost120();
        bytesLeftOver();
        storeOf16();
        orderOfTheWholePack();
        orderWithinAThing();
        orderOfThings();
        kindOfWhole();
        kindOfDifference();
        inTheirOrder();
        CHECK.end();
    }

    private static void fewerThan32() {
        CHECK.sentence(WHERE, "SHORT: it has fewer than 32 bytes");
        CHECK.due("32 bytes", told(PackTool.pack()), 0);
        CHECK.due("31 bytes, sealed", told(PackTool.sealed(Arrays.copyOf(PackTool.head(0), 11))), PackShelf.SHORT);
        for (int n = 1; n < 32; n++) {
            CHECK.due(n + " bytes", told(Arrays.copyOf(PackTool.pack(), n)), PackShelf.SHORT);
        }
    }

    private static void beginning() {
        CHECK.sentence(WHERE, "or does not begin with 80 65 67 75 0 0 0 2");
        for (int i = 0; i < 8; i++) {
            for (int bit = 1; bit < 256; bit *= 2) {
                byte[] head = PackTool.head(0);
                head[i] ^= (byte) bit;
                CHECK.due("byte " + i, told(PackTool.sealed(head)), PackShelf.SHORT);
            }
        }
    }

    private static void lastTwenty() {
        CHECK.sentence(WHERE, "SEAL: its last 20 bytes are not that sum");
        byte[] right = PackTool.pack(TEN);
        CHECK.due("they are", told(right), 1);
        for (int i = right.length - 20; i < right.length; i++) {
            byte[] wrong = right.clone();
            wrong[i] ^= 1;
            CHECK.due("byte " + i + " of the sum", told(wrong), PackShelf.SEAL);
        }
        for (int i = 8; i < right.length - 20; i++) {
            byte[] wrong = right.clone();
            wrong[i] ^= 1;
            CHECK.due("byte " + i + " before it", told(wrong), PackShelf.SEAL);
        }
        CHECK.due("one byte more", told(PackTool.join(right, new byte[1])), PackShelf.SEAL);
        CHECK.due("one byte less", told(Arrays.copyOf(right, right.length - 1)), PackShelf.SEAL);
    }

    private static void moreThan16Told() {
        CHECK.sentence(WHERE, "FULL: the number of things that it tells is more than 16");
        byte[][] things = new byte[17][];
        Arrays.fill(things, PackTool.whole(3, ""));
        CHECK.due("16, all the same", told(PackTool.pack(Arrays.copyOf(things, 16))), 1);
        CHECK.due("17, all the same", told(PackTool.pack(things)), PackShelf.FULL);
        CHECK.due("16, and none there", told(PackTool.sealed(PackTool.head(16))), PackShelf.ENDS);
        CHECK.due("17, and none there", told(PackTool.sealed(PackTool.head(17))), PackShelf.FULL);
        for (int shift = 8; shift < 31; shift++) {
            CHECK.due("2 to the " + shift, told(PackTool.sealed(PackTool.head(1L << shift))), PackShelf.FULL);
        }
    }

    private static void withoutASign() {
        CHECK.sentence(WHERE, "(not less than 0: four bytes without a sign)");
        CHECK.due("2 to the 31", told(PackTool.sealed(PackTool.head(1L << 31))), PackShelf.FULL);
        CHECK.due("2 to the 31, and 1", told(PackTool.sealed(PackTool.join(PackTool.head((1L << 31) + 1), TEN))),
                PackShelf.FULL);
        CHECK.due("2 to the 32 less 1", told(PackTool.sealed(PackTool.head((1L << 32) - 1))), PackShelf.FULL);
        CHECK.due("2 to the 32 less 16", told(PackTool.sealed(PackTool.head((1L << 32) - 16))), PackShelf.FULL);
    }

    /** A thing with a mark of two bytes, one with a distance of one byte, one with a distance of two. */
    private static void endsAtEachByte() {
        CHECK.sentence(WHERE, "ENDS: a byte is wanted, and there are but the last 20 left");
        byte[] longer = PackTool.whole(2, PackTool.mixed(3, 120));
        byte[] near = PackTool.difference(TEN.length, FOUR_OF_TEN);
        byte[] far = PackTool.difference(TEN.length + longer.length, FOUR_OF_TEN);
        byte[] manySteps = PackTool.difference(TEN.length, PackTool.join(PackTool.bytes(10, 20, 20), PackTool.mixed(1, 20)));
        endsWithin(PackTool.whole(2, PackTool.mixed(2, 40)));
        endsWithin(PackTool.whole(1, ""));
        endsWithin(near, TEN);
        endsWithin(manySteps, TEN);
        endsWithin(far, TEN, longer);
    }

    private static void endsWithin(byte[] last, byte[]... before) {
        byte[] head = PackTool.join(PackTool.head(before.length + 1), PackTool.join(before));
        for (int n = 0; n < last.length; n++) {
            byte[] pack = PackTool.sealed(PackTool.join(head, Arrays.copyOf(last, n)));
            CHECK.due(n + " bytes of " + last.length, told(pack), PackShelf.ENDS);
        }
        CHECK.due("all " + last.length, told(PackTool.sealed(PackTool.join(head, last))), before.length + 1);
    }

    /** The last twenty bytes are never taken for a thing, whatever they are. */
    private static void endsBeforeTheLastTwenty() {
        CHECK.sentence(WHERE, "there are but the last 20 left");
        for (int told = 1; told <= 16; told++) {
            CHECK.due(told + " told, none there", told(PackTool.sealed(PackTool.head(told))), PackShelf.ENDS);
        }
        CHECK.due("two told, one there", told(PackTool.sealed(PackTool.join(PackTool.head(2), TEN))), PackShelf.ENDS);
    }

    private static void typeIsNone() {
        CHECK.sentence(WHERE, "TYPE: the type is not 1, 2, 3 or 6");
        int[] due = {PackShelf.TYPE, 1, 1, 1, PackShelf.TYPE, PackShelf.TYPE, 2, PackShelf.TYPE};
        for (int type = 0; type < 8; type++) {
            if (type != 6) {
                CHECK.due("short, type " + type, told(PackTool.pack(PackTool.whole(type, "abc"))), due[type]);
                CHECK.due("long, type " + type, told(PackTool.pack(PackTool.whole(type, PackTool.mixed(1, 50)))), due[type]);
            }
        }
        CHECK.due("type 6", told(PackTool.pack(TEN, PackTool.difference(TEN.length, FOUR_OF_TEN))), due[6]);
    }

    private static void typeAtTheFirstByte() {
        CHECK.sentence(WHERE, "TYPE, told at the first byte of the mark");
        for (int type : new int[] {0, 4, 5, 7}) {
            CHECK.due("the mark does not end", told(PackTool.pack(PackTool.bytes(128 + 16 * type))), PackShelf.TYPE);
            CHECK.due("n is large", told(PackTool.pack(PackTool.mark(type, 121))), PackShelf.TYPE);
            CHECK.due("nothing behind", told(PackTool.pack(PackTool.bytes(16 * type + 5))), PackShelf.TYPE);
        }
    }

    private static void largeMarks() {
        CHECK.sentence(WHERE, "LARGE: n is more than 120");
        for (int kind = 1; kind <= 3; kind++) {
            CHECK.due("119", told(PackTool.pack(PackTool.whole(kind, new byte[119]))), 1);
            CHECK.due("120", told(PackTool.pack(PackTool.whole(kind, new byte[120]))), 1);
            CHECK.due("121", told(PackTool.pack(PackTool.whole(kind, new byte[121]))), PackShelf.LARGE);
        }
        byte[] most = PackTool.join(PackTool.bytes(10, 117, 117), PackTool.repeat(5, 117));
        CHECK.due("a difference of 120", told(PackTool.pack(TEN, PackTool.difference(TEN.length, most))), 2);
        byte[] more = PackTool.join(PackTool.bytes(10, 118, 118), PackTool.repeat(5, 118));
        CHECK.due("a difference of 121", told(PackTool.pack(TEN, PackTool.difference(TEN.length, more))), PackShelf.LARGE);
        for (int n : new int[] {127, 128, 255, 256, 376, 2047, 2048, 2048 + 5, 65536, 1 << 18, 1 << 25, Integer.MAX_VALUE}) {
            CHECK.due("n of " + n, told(PackTool.pack(PackTool.mark(3, n))), PackShelf.LARGE);
        }
    }

    private static void largeBehindTheMark() {
        CHECK.sentence(WHERE, "LARGE, told behind the mark");
        CHECK.due("nothing behind it", told(PackTool.pack(PackTool.mark(1, 121))), PackShelf.LARGE);
        CHECK.due("no distance", told(PackTool.pack(PackTool.mark(6, 121))), PackShelf.LARGE);
        CHECK.due("a wrong distance", told(PackTool.pack(TEN, PackTool.difference(1, new byte[121]))), PackShelf.LARGE);
        CHECK.due("large, but it goes on", told(PackTool.pack(PackTool.bytes(128 + 16 + 9, 128 + 7))), PackShelf.ENDS);
        CHECK.due("large, and it goes on for long", told(PackTool.pack(PackTool.join(PackTool.bytes(128 + 16),
                PackTool.repeat(255, 30)))), PackShelf.ENDS);
    }

    /** Seven bits a byte, the lowest first; a bit that is far behind stays a bit of n. */
    private static void marksOfManyBytes() {
        CHECK.sentence("Terms, mark", "while something is left of n >> 4, a byte with seven bits of it, the lowest first");
        byte[] rest = PackTool.wrap(PackTool.text("0123456789"));
        for (int zeros = 0; zeros < 12; zeros++) {
            byte[] start = PackTool.join(PackTool.bytes(128 + 48 + 10), PackTool.repeat(128, zeros));
            CHECK.due("zeros alone, " + zeros, told(PackTool.pack(PackTool.join(start, new byte[1], rest))), 1);
            for (int bit = zeros == 0 ? 8 : 1; bit < 128; bit *= 2) {
                CHECK.due("a bit behind " + zeros, told(PackTool.pack(PackTool.join(start, PackTool.bytes(bit), rest))),
                        PackShelf.LARGE);
            }
        }
        for (int n : new int[] {16, 31, 32, 64, 112, 120}) {
            PackShelf x = PackTool.loaded(PackTool.pack(PackTool.join(PackTool.bytes(128 + 48 + n % 16, n / 16),
                    PackTool.wrap(PackTool.mixed(2, n)))));
            CHECK.due("n of " + n, x.unpack(), 1);
            CHECK.due("size", x.size(0), n);
        }
    }

    private static void baseBehindTheDistance() {
        CHECK.sentence(WHERE, "BASE, told behind the distance");
        CHECK.due("nothing behind it", told(PackTool.pack(TEN, PackTool.bytes(96 + 5, 1))), PackShelf.BASE);
        CHECK.due("nothing behind two bytes", told(PackTool.pack(TEN, PackTool.bytes(96 + 5, 128, 0))), PackShelf.BASE);
        CHECK.due("one of two bytes", told(PackTool.pack(TEN, PackTool.bytes(96 + 5, 128))), PackShelf.ENDS);
        CHECK.due("one of two bytes", told(PackTool.pack(TEN, PackTool.bytes(96 + 5, 255))), PackShelf.ENDS);
        CHECK.due("no distance", told(PackTool.pack(TEN, PackTool.bytes(96 + 5))), PackShelf.ENDS);
    }

    private static void baseIsAFirstByte() {
        CHECK.sentence(WHERE, "BASE: that does not lead to the first byte of a thing");
        byte[] one = PackTool.whole(3, "one");
        for (int distance = 0; distance <= one.length + TEN.length + 12; distance++) {
            boolean isOne = distance == one.length;
            byte[] steps = isOne ? PackTool.bytes(3, 1, 1, 'x') : FOUR_OF_TEN;
            CHECK.due("distance " + distance, told(PackTool.pack(TEN, one, PackTool.difference(distance, steps))),
                    isOne || distance == one.length + TEN.length ? 3 : PackShelf.BASE);
        }
    }

    private static void baseIsBefore() {
        CHECK.sentence(WHERE, "of a thing before it in the pack");
        CHECK.due("itself", told(PackTool.pack(PackTool.difference(0, FOUR_OF_TEN))), PackShelf.BASE);
        CHECK.due("itself, behind another", told(PackTool.pack(TEN, PackTool.difference(0, FOUR_OF_TEN))), PackShelf.BASE);
        CHECK.due("the pack's first byte", told(PackTool.pack(PackTool.difference(12, FOUR_OF_TEN))), PackShelf.BASE);
        CHECK.due("before the pack", told(PackTool.pack(PackTool.difference(13, FOUR_OF_TEN))), PackShelf.BASE);
        CHECK.due("far before the pack", told(PackTool.pack(TEN, PackTool.join(PackTool.bytes(96 + 5, 255, 255),
                PackTool.wrap(FOUR_OF_TEN)))), PackShelf.BASE);
        // A pack that was read before must not leave its places behind.
        PackShelf x = PackTool.loaded(PackTool.pack(TEN, PackTool.difference(TEN.length, FOUR_OF_TEN)));
        CHECK.due("right", x.unpack(), 2);
        x.alter(12 + TEN.length + 1, 0);
        x.seal();
        CHECK.due("itself, where a thing began before", x.unpack(), PackShelf.BASE);
    }

    private static void distanceWhateverYIs() {
        CHECK.sentence("Terms, distance", "read, two bytes x and y are 128 * (x - 127) + y, whatever y is");
        for (int[] row : new int[][] {{127, 127}, {128, 128, 0}, {129, 128, 1}, {254, 128, 126}, {255, 128, 127},
            {256, 128, 128}, {256, 129, 0}, {257, 128, 129}, {257, 129, 1}, {280, 128, 152}, {280, 129, 24}}) {
            byte[] back = new byte[row.length - 1];
            for (int i = 0; i < back.length; i++) {
                back[i] = (byte) row[1 + i];
            }
            byte[][] things = behind(row[0], back);
            CHECK.due("distance " + row[0], told(PackTool.pack(things)), things.length);
            back[back.length - 1]++;
            CHECK.due("one more than " + row[0], told(PackTool.pack(behind(row[0], back))), PackShelf.BASE);
        }
    }

    /** Ten bytes, things between, and a difference that is so far behind the ten, with this distance in it. */
    private static byte[][] behind(int distance, byte[] back) {
        byte[] last = PackTool.join(PackTool.mark(6, 5), back, PackTool.wrap(FOUR_OF_TEN));
        int between = distance - TEN.length;
        if (between <= 133) {
            return new byte[][] {TEN, PackTool.whole(2, PackTool.mixed(1, between - 13)), last};
        }
        return new byte[][] {TEN, PackTool.whole(2, PackTool.mixed(1, 120)),
            PackTool.whole(2, PackTool.mixed(2, between - 133 - 13)), last};
    }

    /** Five blobs that take 383 bytes, and a sixth one that is altered to be a difference from the first. */
    private static void distanceOf383() {
        CHECK.sentence("Terms, distance", "whatever y is: also 255");
        PackShelf x = new PackShelf();
        for (int n : new int[] {64, 64, 64, 64, 62, 7}) {
            PackTool.blobOf(x, PackTool.mixed(1 + x.things(), n));
        }
        CHECK.due("pack()", x.pack(), 12 + 383 + 19 + 20);
        byte[] last = PackTool.join(PackTool.bytes(96 + 5, 128, 255), PackTool.wrap(PackTool.bytes(64, 8, 145, 50, 8)));
        for (int i = 0; i < last.length; i++) {
            x.alter(12 + 383 + i, last[i] & 255);
        }
        x.seal();
        CHECK.due("unpack()", x.unpack(), 1);
        CHECK.due("what comes out", PackTool.contentOf(x, 6), Arrays.copyOfRange(PackTool.mixed(1, 64), 50, 58));
        x.alter(12 + 383 + 2, 254);
        x.seal();
        CHECK.due("one less", x.unpack(), PackShelf.BASE);
    }

    private static void wrapOfEachByte() {
        CHECK.sentence(WHERE, "WRAP: a byte of the wrapped data, other than the data, is not what it should be");
        for (int n : new int[] {0, 20}) {
            byte[] thing = PackTool.whole(3, PackTool.mixed(5, n));
            int start = n == 0 ? 1 : 2;
            for (int i = 0; i < 7 + n + 4; i++) {
                for (int bit = 1; bit < 256; bit *= 2) {
                    byte[] wrong = thing.clone();
                    wrong[start + i] ^= (byte) bit;
                    CHECK.due("byte " + i + " of the wrapped data", told(PackTool.pack(wrong)), PackShelf.WRAP);
                }
            }
        }
        byte[] steps = PackTool.difference(TEN.length, FOUR_OF_TEN);
        for (int i = 2; i < steps.length; i++) {
            byte[] wrong = steps.clone();
            wrong[i] ^= 1;
            CHECK.due("byte " + (i - 2) + " of a wrapped difference", told(PackTool.pack(TEN, wrong)), PackShelf.WRAP);
        }
        byte[] larger = PackTool.join(PackTool.bytes(48 + 9), PackTool.wrap(PackTool.text("0123456789")));
        CHECK.due("another n than the mark's", told(PackTool.pack(larger)), PackShelf.WRAP);
        byte[] high = PackTool.whole(3, "");
        high[5] = 1;
        high[7] = (byte) 254;
        CHECK.due("256 more than the mark's", told(PackTool.pack(high)), PackShelf.WRAP);
    }

    private static void wrapByteByByte() {
        CHECK.sentence(WHERE, "Then for each thing, byte by byte: WRAP");
        int[] right = {48 + 2, 120, 1, 1, 2, 0, 253, 255, 7, 8, 0, 24, 0, 16};
        CHECK.due("all right", told(PackTool.pack(PackTool.bytes(right))), 1);
        for (int i = 1; i < right.length; i++) {
            int[] wrong = Arrays.copyOf(right, i + 1);
            wrong[i] ^= 128;
            boolean isData = i == 8 || i == 9;
            CHECK.due("the pack ends behind byte " + i, told(PackTool.pack(PackTool.bytes(wrong))),
                    isData ? PackShelf.ENDS : PackShelf.WRAP);
        }
    }

    private static void wrapModulo() {
        CHECK.sentence("Terms, wrapped", "b is the sum of all values that a had behind a byte, modulo 65521");
        CHECK.due("120 times 255", told(PackTool.pack(PackTool.whole(3, PackTool.repeat(255, 120)))), 1);
        byte[] row = new byte[64];
        // Weights 64, 63 .. of values that make b exactly 65521.
        int left = 65521 - 64;
        for (int i = 0; i < 64; i++) {
            row[i] = (byte) Math.min(255, left / (64 - i));
            left -= (row[i] & 255) * (64 - i);
        }
        byte[] thing = PackTool.whole(3, row);
        CHECK.due("the first byte of b", thing[thing.length - 4], 0);
        CHECK.due("the second byte of b", thing[thing.length - 3], 0);
        CHECK.due("b is 0", told(PackTool.pack(thing)), 1);
        thing[thing.length - 4] = (byte) 255;
        thing[thing.length - 3] = (byte) 241;
        CHECK.due("b is 65521", told(PackTool.pack(thing)), PackShelf.WRAP);
    }

    private static void differenceBehindTheWrappedData() {
        CHECK.sentence(WHERE, "DIFFERENCE, told behind the wrapped data of one");
        byte[] bad = PackTool.difference(TEN.length, PackTool.bytes(9, 4, 145, 0, 4));
        CHECK.due("all there", told(PackTool.pack(TEN, bad)), PackShelf.DIFFERENCE);
        CHECK.due("the last byte is missing", told(PackTool.pack(TEN, Arrays.copyOf(bad, bad.length - 1))), PackShelf.ENDS);
        for (int i = bad.length - 4; i < bad.length; i++) {
            byte[] wrong = bad.clone();
            wrong[i] ^= 1;
            CHECK.due("byte " + i + " is wrong", told(PackTool.pack(TEN, wrong)), PackShelf.WRAP);
        }
    }

    private static void lengthOfTheOther() {
        CHECK.sentence(WHERE, "its first byte is not the length of the other content");
        for (int n : new int[] {0, 4, 9, 11, 138, 255}) {
            fails("length " + n, n, 4, 145, 0, 4);
        }
        comesOut("0123", 10, 4, 145, 0, 4);
    }

    private static void lengthOfWhatComesOut() {
        CHECK.sentence(WHERE, "or its second one not that of what comes out");
        for (int n : new int[] {0, 3, 5, 10, 132, 255}) {
            fails("length " + n, 10, n, 145, 0, 4);
        }
        fails("1, and nothing comes out", 10, 1);
        fails("0, and one comes out", 10, 0, 1, 'x');
        comesOut("", 10, 0);
        comesOut("0123", 10, 4, 145, 0, 4);
    }

    private static void lengthsMissing() {
        CHECK.sentence(WHERE, "or one of these is missing");
        fails("both");
        fails("the second one", 10);
        byte[] empty = PackTool.whole(3, "");
        CHECK.due("both, of an empty one", told(PackTool.pack(empty, PackTool.difference(empty.length, new byte[0]))),
                PackShelf.DIFFERENCE);
        CHECK.due("the second, of an empty one", told(PackTool.pack(empty, PackTool.difference(empty.length, new byte[1]))),
                PackShelf.DIFFERENCE);
        CHECK.due("both are there", told(PackTool.pack(empty, PackTool.difference(empty.length, new byte[2]))), 1);
    }

    private static void byteThatBegins() {
        CHECK.sentence(WHERE, "or a byte that begins something is 0 or more than 127 and not 145");
        for (int first = 0; first < 256; first++) {
            if (first == 0 || first > 127 && first != 145) {
                fails("it is " + first + ", as if it were a copy", 10, 4, first, 0, 4);
                fails("it is " + first + ", as if it were nothing", 10, 4, first, 145, 0, 4);
                fails("it is " + first + " at the end", 10, 4, 145, 0, 4, first);
            }
        }
        for (int first : new int[] {1, 2, 100, 117}) {
            int[] steps = new int[3 + first];
            steps[0] = 10;
            steps[1] = first;
            steps[2] = first;
            Arrays.fill(steps, 3, steps.length, 'n');
            comesOut("n".repeat(first), steps);
        }
    }

    private static void copiedInFull() {
        CHECK.sentence(WHERE, "or what is to be copied is not there in full");
        comesOut("0123456789", 10, 10, 145, 0, 10);
        fails("11 of 10", 10, 11, 145, 0, 11);
        fails("11 of 10, told as 10", 10, 10, 145, 0, 11);
        comesOut("9", 10, 1, 145, 9, 1);
        fails("behind the last", 10, 1, 145, 10, 1);
        fails("behind the last, told as none", 10, 0, 145, 10, 1);
        fails("beyond the last", 10, 2, 145, 9, 2);
        fails("beyond the last, told as one", 10, 1, 145, 9, 2);
        fails("far behind the last", 10, 1, 145, 255, 1);
        fails("far beyond the last", 10, 255, 145, 0, 255);
        fails("its length is missing", 10, 0, 145, 0);
        fails("its length is missing, behind a new one", 10, 1, 1, 'x', 145, 0);
        fails("its length is missing, told as one less", 10, 0, 1, 'x', 145, 0);
        fails("place and length are missing", 10, 0, 145);
        fails("place and length are missing, behind a new one", 10, 1, 1, 'x', 145);
        comesOut("ab", 10, 2, 1, 'a', 145, 0, 0, 1, 'b');
        byte[] most = PackTool.whole(3, PackTool.mixed(1, 120));
        CHECK.due("120 of 120", told(PackTool.pack(most, PackTool.difference(133, PackTool.bytes(120, 120, 145, 0, 120)))), 1);
        CHECK.due("the last of 120", told(PackTool.pack(most, PackTool.difference(133, PackTool.bytes(120, 1, 145, 119, 1)))), 2);
        CHECK.due("behind 120", told(PackTool.pack(most, PackTool.difference(133, PackTool.bytes(120, 1, 145, 120, 1)))),
                PackShelf.DIFFERENCE);
    }

    private static void newInFull() {
        CHECK.sentence(WHERE, "or is new is not there in full");
        comesOut("abc", 10, 3, 3, 'a', 'b', 'c');
        fails("two of three", 10, 3, 3, 'a', 'b');
        fails("two of three, told as two", 10, 2, 3, 'a', 'b');
        fails("none of three", 10, 3, 3);
        fails("none of three, told as none", 10, 0, 3);
        fails("none of one", 10, 1, 1);
        fails("none of one, told as none", 10, 0, 1);
        fails("126 missing", 10, 127, 127, 'a');
        comesOut("ab", 10, 2, 1, 'a', 1, 'b');
        fails("the second one", 10, 2, 1, 'a', 1);
    }

    private static void atMost120() {
        CHECK.sentence(WHERE, "or more than 120 bytes come out");
        comesOut("0123456789".repeat(12), tens(120, 12));
        comesOut("0123456789".repeat(11) + "012345678", tens(119, 11, 145, 0, 9));
        fails("121 by a new one", tens(121, 12, 1, 'x'));
        fails("121 by a copy", tens(121, 12, 145, 0, 1));
        fails("130", tens(130, 13));
        fails("255", tens(255, 25, 145, 0, 5));
        fails("256, told as 0", tens(0, 25, 145, 0, 6));
        fails("260, told as 4", tens(4, 26));
        fails("121, told as 120", tens(120, 12, 1, 'x'));
    }

    private static int[] tens(int told, int copies, int... more) {
        int[] steps = new int[2 + 3 * copies + more.length];
        steps[0] = 10;
        steps[1] = told;
        for (int i = 0; i < copies; i++) {
            steps[2 + 3 * i] = 145;
            steps[4 + 3 * i] = 10;
        }
        System.arraycopy(more, 0, steps, 2 + 3 * copies, more.length);
        return steps;
    }

    private static void bytesLeftOver() {
        CHECK.sentence(WHERE, "At last ENDS again: bytes are left over between the things and the last 20");
        CHECK.due("none", told(PackTool.sealed(PackTool.join(PackTool.head(1), TEN))), 1);
        CHECK.due("one", told(PackTool.sealed(PackTool.join(PackTool.head(1), TEN, new byte[1]))), PackShelf.ENDS);
        CHECK.due("one, behind no thing", told(PackTool.sealed(PackTool.join(PackTool.head(0), new byte[1]))), PackShelf.ENDS);
        CHECK.due("a thing", told(PackTool.sealed(PackTool.join(PackTool.head(1), TEN, TEN))), PackShelf.ENDS);
        CHECK.due("twenty", told(PackTool.sealed(PackTool.sealed(PackTool.join(PackTool.head(1), TEN)))), PackShelf.ENDS);
    }

    private static void storeOf16() {
        CHECK.sentence(WHERE, "and FULL: the store would have more than 16 things");
        byte[] pack = PackTool.pack(PackTool.whole(1, "p"), PackTool.whole(3, "q"), PackTool.whole(1, "p"));
        CHECK.due("14 and two", told(with(14, pack)), 2);
        CHECK.due("15 and two", told(with(15, pack)), PackShelf.FULL);
        CHECK.due("16 and two", told(with(16, pack)), PackShelf.FULL);
        PackShelf x = with(14, pack);
        PackTool.blobOf(x, "q");
        CHECK.due("15 and one", x.unpack(), 1);
        CHECK.due("16, and all there", x.unpack(), 0);
        CHECK.due("16 and none", told(with(16, PackTool.pack())), 0);
        byte[][] many = new byte[16][];
        for (int i = 0; i < many.length; i++) {
            many[i] = PackTool.whole(2, new byte[] {(byte) i});
        }
        CHECK.due("none and 16", told(with(0, PackTool.pack(many))), 16);
        CHECK.due("one and 16", told(with(1, PackTool.pack(many))), PackShelf.FULL);
    }

    /** Packs with two things wrong that stand in different parts of the order. */
    private static void orderOfTheWholePack() {
        CHECK.sentence(WHERE, "the first that is wrong, in this order, is told");
        byte[] badHead = PackTool.join(PackTool.text("PACK"), PackTool.bytes(0, 0, 0, 3, 0, 0, 0, 17));
        byte[] badType = PackTool.bytes(0);
        byte[] seal = new byte[20];
        CHECK.due("SHORT, SEAL", told(PackTool.join(badHead, seal)), PackShelf.SHORT);
        CHECK.due("SHORT by length, SEAL", told(Arrays.copyOf(PackTool.head(0), 31)), PackShelf.SHORT);
        CHECK.due("SHORT, FULL", told(PackTool.sealed(badHead)), PackShelf.SHORT);
        CHECK.due("SEAL, FULL", told(PackTool.join(PackTool.head(17), seal)), PackShelf.SEAL);
        CHECK.due("SEAL, TYPE", told(PackTool.join(PackTool.head(1), badType, seal)), PackShelf.SEAL);
        CHECK.due("SEAL, ENDS", told(PackTool.join(PackTool.head(1), seal)), PackShelf.SEAL);
        CHECK.due("FULL, TYPE", told(PackTool.sealed(PackTool.join(PackTool.head(17), badType))), PackShelf.FULL);
        CHECK.due("FULL, ENDS", told(PackTool.sealed(PackTool.head(17))), PackShelf.FULL);
        CHECK.due("TYPE, bytes left", told(PackTool.sealed(PackTool.join(PackTool.head(1), badType, TEN))), PackShelf.TYPE);
        byte[] badSteps = PackTool.difference(TEN.length, PackTool.bytes(1, 1));
        byte[] left = PackTool.sealed(PackTool.join(PackTool.head(2), TEN, badSteps, seal));
        CHECK.due("DIFFERENCE, bytes left", told(left), PackShelf.DIFFERENCE);
        CHECK.due("TYPE, FULL by the store", told(with(16, PackTool.pack(TEN, badType))), PackShelf.TYPE);
        CHECK.due("DIFFERENCE, FULL by the store", told(with(16, PackTool.pack(TEN, badSteps))), PackShelf.DIFFERENCE);
        byte[] more = PackTool.sealed(PackTool.join(PackTool.head(1), TEN, new byte[1]));
        CHECK.due("bytes left, FULL by the store", told(with(16, more)), PackShelf.ENDS);
        CHECK.due("FULL by the number, all there", told(with(16, PackTool.sealed(PackTool.head(17)))), PackShelf.FULL);
    }

    /** Where one thing has two faults, the one at the earlier byte is told. */
    private static void orderWithinAThing() {
        CHECK.sentence(WHERE, "Then for each thing, byte by byte");
        byte[] wrong = PackTool.wrap(PackTool.bytes(9, 4, 145, 0, 4));
        wrong[0] = 1;
        byte[] large = PackTool.mark(6, 121);
        CHECK.due("TYPE, LARGE", told(PackTool.pack(PackTool.mark(7, 500))), PackShelf.TYPE);
        CHECK.due("LARGE, BASE", told(PackTool.pack(TEN, PackTool.join(large, PackTool.bytes(3), wrong))), PackShelf.LARGE);
        CHECK.due("LARGE, WRAP", told(PackTool.pack(TEN, PackTool.join(large, PackTool.bytes(TEN.length), wrong))),
                PackShelf.LARGE);
        CHECK.due("LARGE, WRAP of a whole one", told(PackTool.pack(PackTool.join(PackTool.mark(3, 121), wrong))),
                PackShelf.LARGE);
        CHECK.due("BASE, WRAP", told(PackTool.pack(TEN, PackTool.join(PackTool.bytes(96 + 5, 3), wrong))), PackShelf.BASE);
        CHECK.due("BASE, DIFFERENCE", told(PackTool.pack(TEN, PackTool.difference(3, PackTool.bytes(9, 9)))), PackShelf.BASE);
        CHECK.due("WRAP, DIFFERENCE", told(PackTool.pack(TEN, PackTool.join(PackTool.bytes(96 + 5, TEN.length), wrong))),
                PackShelf.WRAP);
        CHECK.due("WRAP, ENDS", told(PackTool.pack(TEN, PackTool.bytes(96 + 5, TEN.length, 1))), PackShelf.WRAP);
    }

    private static void orderOfThings() {
        CHECK.sentence(WHERE, "Then for each thing");
        byte[] badType = PackTool.whole(5, "type");
        byte[] large = PackTool.whole(3, new byte[121]);
        byte[] badWrap = PackTool.whole(3, "wrap");
        badWrap[1] = 0;
        byte[] badBase = PackTool.difference(1, FOUR_OF_TEN);
        byte[] badSteps = PackTool.difference(TEN.length, PackTool.bytes(1, 1));
        CHECK.due("WRAP, then TYPE", told(PackTool.pack(badWrap, badType)), PackShelf.WRAP);
        CHECK.due("TYPE, then WRAP", told(PackTool.pack(badType, badWrap)), PackShelf.TYPE);
        CHECK.due("DIFFERENCE, then TYPE", told(PackTool.pack(TEN, badSteps, badType)), PackShelf.DIFFERENCE);
        CHECK.due("DIFFERENCE, then LARGE", told(PackTool.pack(TEN, badSteps, large)), PackShelf.DIFFERENCE);
        CHECK.due("BASE, then LARGE", told(PackTool.pack(TEN, badBase, large)), PackShelf.BASE);
        CHECK.due("LARGE, then BASE", told(PackTool.pack(large, badBase)), PackShelf.LARGE);
        CHECK.due("right ones, then WRAP", told(PackTool.pack(TEN, TEN, TEN, badWrap)), PackShelf.WRAP);
        byte[] ends = PackTool.sealed(PackTool.join(PackTool.head(3), TEN, badBase));
        CHECK.due("BASE, then ENDS", told(ends), PackShelf.BASE);
    }

    private static void kindOfWhole() {
        CHECK.sentence(WHERE, "A thing that is read and is whole has the kind of its type");
        for (int kind = 1; kind <= 3; kind++) {
            PackShelf x = PackTool.loaded(PackTool.pack(PackTool.whole(kind, "anything")));
            CHECK.due("unpack()", x.unpack(), 1);
            CHECK.due("kind(0)", x.kind(0), kind);
            CHECK.due("content", PackTool.contentOf(x, 0), PackTool.text("anything"));
            CHECK.due("name", PackTool.nameOf(x, 0), PackTool.nameOf(kind, PackTool.text("anything")));
            CHECK.due("a branch", x.branch(0, 0), kind == 1);
            CHECK.due("an entry", x.entry(0, 0), kind == 1 ? PackShelf.BAD : 1);
        }
    }

    private static void kindOfDifference() {
        CHECK.sentence(WHERE, "a difference that of the other one");
        for (int kind = 1; kind <= 3; kind++) {
            byte[] base = PackTool.whole(kind, "0123456789");
            byte[] other = PackTool.whole(kind % 3 + 1, "0123456789");
            byte[] between = PackTool.whole(kind % 3 + 1, "between");
            byte[] first = PackTool.difference(base.length + between.length, PackTool.bytes(10, 4, 145, 0, 4));
            byte[] second = PackTool.difference(first.length, PackTool.bytes(4, 5, 145, 0, 4, 1, '!'));
            PackShelf x = PackTool.loaded(PackTool.pack(other, base, between, first, second));
            CHECK.due("unpack()", x.unpack(), 5);
            CHECK.due("the other one's", x.kind(3), kind);
            CHECK.due("that of a difference", x.kind(4), kind);
            CHECK.due("name", PackTool.nameOf(x, 4), PackTool.nameOf(kind, PackTool.text("0123!")));
        }
    }

    private static void inTheirOrder() {
        CHECK.sentence(WHERE, "They come to the store in their order");
        PackShelf x = with(2, PackTool.pack(PackTool.whole(3, "b"), PackTool.whole(1, "c"), PackTool.whole(3, new byte[] {1}),
                PackTool.whole(2, "t"), PackTool.whole(3, "b"), PackTool.whole(3, "a")));
        CHECK.due("unpack()", x.unpack(), 4);
        String[] want = {"\0", "\1", "b", "c", "t", "a"};
        for (int i = 0; i < want.length; i++) {
            CHECK.due("thing " + i, PackTool.contentOf(x, i), PackTool.text(want[i]));
        }
        CHECK.due("things()", x.things(), want.length);
    }

    private static void fails(String what, int... steps) {
        CHECK.due(what, told(PackTool.pack(TEN, PackTool.difference(TEN.length, PackTool.bytes(steps)))),
                PackShelf.DIFFERENCE);
    }

    private static void comesOut(String want, int... steps) {
        boolean isTen = want.equals("0123456789");
        PackShelf x = PackTool.loaded(PackTool.pack(TEN, PackTool.difference(TEN.length, PackTool.bytes(steps))));
        CHECK.due("unpack()", x.unpack(), isTen ? 1 : 2);
        CHECK.due("what comes out", PackTool.contentOf(x, isTen ? 0 : 1), PackTool.text(want));
    }

    private static int told(byte[] pack) {
        return told(PackTool.loaded(pack));
    }

    /** What unpack() answers; what is wrong leaves the store as it was. */
    private static int told(PackShelf x) {
        int before = x.things();
        int answer = x.unpack();
        CHECK.due("things()", x.things(), before + Math.max(0, answer));
        return answer;
    }

    /** An object with so many blobs of one byte, 0 and so on, and this pack. */
    private static PackShelf with(int n, byte[] pack) {
        PackShelf x = PackTool.loaded(pack);
        for (int i = 0; i < n; i++) {
            x.type(i, 1);
            x.blob();
        }
        return x;
    }
}
