import java.io.ByteArrayOutputStream;
import java.nio.ByteBuffer;
import java.nio.charset.StandardCharsets;
import java.security.MessageDigest;
import java.security.NoSuchAlgorithmException;
import java.util.function.Supplier;
import java.util.zip.Adler32;

/** Writes packs by hand, with the Java library, and brings them into an object by its own calls. */
final class PackTool {
    private PackTool() {
    }

    static byte[] bytes(int... values) {
        byte[] row = new byte[values.length];
        for (int i = 0; i < values.length; i++) {
            row[i] = (byte) values[i];
        }
        return row;
    }

    static byte[] text(String text) {
        return text.getBytes(StandardCharsets.ISO_8859_1);
    }

    static byte[] join(byte[]... rows) {
        ByteArrayOutputStream all = new ByteArrayOutputStream();
        for (byte[] row : rows) {
            all.write(row, 0, row.length);
        }
        return all.toByteArray();
    }

    static byte[] repeat(int value, int n) {
        byte[] row = new byte[n];
        java.util.Arrays.fill(row, (byte) value);
        return row;
    }

    static byte[] mark(int type, int n) {
        ByteArrayOutputStream out = new ByteArrayOutputStream();
        int rest = n >> 4;
        out.write((n & 15) | type << 4 | (rest != 0 ? 128 : 0));
        while (rest != 0) {
            out.write((rest & 127) | (rest > 127 ? 128 : 0));
            rest >>= 7;
        }
        return out.toByteArray();
    }

    static byte[] wrap(byte[] data) {
        int n = data.length;
        Adler32 adler = new Adler32();
        adler.update(data);
        int a = (int) adler.getValue();
        return join(bytes(120, 1, 1, n & 255, n >> 8, 255 - (n & 255), 255 - (n >> 8)), data,
                bytes(a >>> 24, a >>> 16, a >>> 8, a));
    }

    static byte[] whole(int kind, byte[] content) {
        return join(mark(kind, content.length), wrap(content));
    }

    static byte[] whole(int kind, String content) {
        return whole(kind, text(content));
    }

    static byte[] difference(int distance, byte[] steps) {
        byte[] back = distance < 128 ? bytes(distance) : bytes(128 + (distance - 128) / 128, (distance - 128) % 128);
        return join(mark(6, steps.length), back, wrap(steps));
    }

    static byte[] sha(byte[] row) {
        try {
            return MessageDigest.getInstance("SHA-1").digest(row);
        } catch (NoSuchAlgorithmException e) {
            throw new IllegalStateException(e);
        }
    }

    static byte[] sealed(byte[] row) {
        return join(row, sha(row));
    }

    static byte[] head(long told) {
        return join(text("PACK"), bytes(0, 0, 0, 2),
                bytes((int) (told >> 24), (int) (told >> 16), (int) (told >> 8), (int) told));
    }

    static byte[] pack(byte[]... things) {
        return sealed(join(head(things.length), join(things)));
    }

    static void typeAll(PackShelf x, byte[] row) {
        for (int i = 0; i < row.length; i += 8) {
            int n = Math.min(8, row.length - i);
            long bits = 0;
            for (int k = 0; k < n; k++) {
                bits = bits << 8 | (row[i + k] & 255);
            }
            x.type(bits, n);
        }
    }

    static int blobOf(PackShelf x, byte[] row) {
        typeAll(x, row);
        return x.blob();
    }

    static int blobOf(PackShelf x, String row) {
        return blobOf(x, text(row));
    }

    /** A new object with nothing in the store and this pack (at most some 400 bytes, so that calls are left). */
    static PackShelf loaded(byte[] pack) {
        PackShelf x = new PackShelf();
        int calls = 0;
        for (int i = 0; i < 16 && x.pack() < pack.length; i++) {
            byte[] filler = repeat(200 + i, 24);
            for (int k = 0; k < filler.length; k++) {
                filler[k] += (byte) (k * (i + 1));
            }
            blobOf(x, filler);
            calls += 5;
        }
        x.sweep();
        calls += 2;
        if (x.packed() > pack.length) {
            x.cut(x.packed() - pack.length);
        }
        for (int i = 0; i < pack.length; i++) {
            x.alter(i, pack[i] & 255);
            calls++;
        }
        if (calls > 480) {
            throw new IllegalStateException("too few calls are left");
        }
        return x;
    }

    static byte[] contentOf(PackShelf x, int thing) {
        byte[] row = new byte[Math.max(0, x.size(thing))];
        for (int i = 0; i < row.length; i++) {
            row[i] = (byte) x.byteOf(thing, i);
        }
        return row;
    }

    /** The twenty bytes of a name. */
    static byte[] nameOf(PackShelf x, int thing) {
        ByteBuffer row = ByteBuffer.allocate(20);
        for (int k = 0; k < 5; k++) {
            row.putInt(x.name(thing, k));
        }
        return row.array();
    }

    /** The name that a thing of that kind must have. */
    static byte[] nameOf(int kind, byte[] content) {
        String[] words = {"commit", "tree", "blob"};
        return sha(join(text(words[kind - 1] + " " + content.length + "\0"), content));
    }

    /** Bytes that have no row of four in common with those of another seed, nor twice in themselves. */
    static byte[] mixed(int seed, int n) {
        byte[] row = new byte[n];
        for (int i = 0; i < n; i++) {
            row[i] = (byte) (i * (2 * seed + 1) + seed);
        }
        return row;
    }

    /** The pack of an object that is made anew for each hundred bytes, so that its calls are enough. */
    static byte[] packOf(Supplier<PackShelf> maker) {
        byte[] row = new byte[maker.get().packed()];
        for (int i = 0; i < row.length;) {
            PackShelf x = maker.get();
            for (int end = Math.min(row.length, i + 100); i < end; i++) {
                row[i] = (byte) x.packByte(i);
            }
        }
        return row;
    }

    static byte[] packOf(PackShelf x) {
        byte[] row = new byte[x.packed()];
        for (int i = 0; i < row.length; i++) {
            row[i] = (byte) x.packByte(i);
        }
        return row;
    }
}
