import java.util.Arrays;
import java.util.Random;

/** Runs of calls, and packs that are broken in many ways, answered by PackShelf and by Model alike. */
public final class ModelTest {
    private static final Check CHECK = new Check();
    private static final int MOST_CALLS = 512;

    private PackShelf x = new PackShelf();
    private Model m = new Model();
    private final Random random;
    private int calls = 0;
    /** How often an answer of unpack was told, by its number taken from 0; the first stands for none. */
    private static final int[] TOLD = new int[11];

    private ModelTest(long seed) {
        random = new Random(seed);
    }

    public static void main(String[] args) {
        int runs = args.length > 0 ? Integer.parseInt(args[0]) : 400;
        for (int seed = 0; seed < runs && CHECK.wrong() < 20; seed++) {
            CHECK.part("run " + seed);
            new ModelTest(seed).run();
            CHECK.part("packs " + seed);
            new ModelTest(seed).packs();
        }
        System.out.println("unpack told 0 or more, -1, -2 .. -10: " + Arrays.toString(TOLD));
        for (int count : TOLD) {
            CHECK.due("each answer of unpack came", count > 0, true);
        }
        CHECK.end();
    }

    private void run() {
        int plenty = 40 + random.nextInt(MOST_CALLS - 140);
        while (calls < plenty) {
            step();
        }
        lookAtAll();
    }

    private void step() {
        switch (random.nextInt(26)) {
            case 0, 1, 2, 3, 4, 5 -> typeSome();
            case 6, 7 -> due("blob()", x.blob(), m.blob());
            case 8, 9, 10 -> {
                int letter = few(26);
                int thing = few(m.things());
                due("entry(" + letter + ", " + thing + ")", x.entry(letter, thing), m.entry(letter, thing));
            }
            case 11 -> due("tree()", x.tree(), m.tree());
            case 12, 13 -> commitSome();
            case 14 -> {
                int b = few(4);
                int thing = few(m.things());
                due("branch(" + b + ", " + thing + ")", x.branch(b, thing), m.branch(b, thing));
            }
            case 15 -> {
                int thing = few(m.things());
                due("reached(" + thing + ")", x.reached(thing), m.reached(thing));
            }
            case 16 -> {
                if (random.nextInt(4) == 0) {
                    due("sweep()", x.sweep(), m.sweep());
                }
            }
            case 17 -> due("pack()", x.pack(), m.pack());
            case 18, 19 -> alterSome();
            case 20 -> {
                if (random.nextInt(5) == 0) {
                    int n = random.nextInt(40) - 2;
                    due("cut(" + n + ")", x.cut(n), m.cut(n));
                }
            }
            case 21 -> due("seal()", x.seal(), m.seal());
            case 22 -> unpack();
            case 23 -> lookAtOne();
            case 24 -> {
                int i = few(m.packed());
                due("packByte(" + i + ")", x.packByte(i), m.packByte(i));
            }
            default -> {
                int b = few(4);
                due("held(" + b + ")", x.held(b), m.held(b));
            }
        }
    }

    /** Mostly 0 .. n - 1, now and then one beside it. */
    private int few(int n) {
        return random.nextInt(12) == 0 || n == 0 ? random.nextInt(n + 3) - 2 : random.nextInt(n);
    }

    private void typeSome() {
        // Few different bytes, so that contents share long rows.
        long bits = 0;
        for (int i = 0; i < 8; i++) {
            bits = bits << 8 | (random.nextInt(6) == 0 ? random.nextInt(256) : 97 + i);
        }
        int n = random.nextInt(10) == 0 ? random.nextInt(11) - 1 : random.nextInt(3) == 0 ? 1 + random.nextInt(8) : 8;
        due("type(" + bits + ", " + n + ")", x.type(bits, n), m.type(bits, n));
    }

    private void commitSome() {
        int tree = few(m.things());
        for (int i = 0; i < m.things() && random.nextInt(5) > 0; i++) {
            tree = m.kind(i) == 2 ? i : tree;
        }
        int parent = random.nextInt(3) == 0 ? -1 : few(m.things());
        for (int i = 0; i < m.things() && random.nextInt(3) > 0; i++) {
            parent = m.kind(i) == 1 ? i : parent;
        }
        int time = random.nextInt(8) == 0 ? random.nextInt() : random.nextInt(2000);
        due("commit(" + tree + ", " + parent + ", " + time + ")", x.commit(tree, parent, time),
                m.commit(tree, parent, time));
    }

    private void alterSome() {
        if (random.nextInt(3) > 0) {
            return;
        }
        int i = few(m.packed());
        int v = random.nextInt(20) == 0 ? random.nextInt(600) - 200 : random.nextInt(256);
        due("alter(" + i + ", " + v + ")", x.alter(i, v), m.alter(i, v));
    }

    private void unpack() {
        int want = m.unpack();
        TOLD[want >= 0 ? 0 : -want]++;
        due("unpack()", x.unpack(), want);
    }

    private void lookAtOne() {
        int thing = few(m.things());
        int i = few(121);
        int k = few(5);
        due("things()", x.things(), m.things());
        due("kind(" + thing + ")", x.kind(thing), m.kind(thing));
        due("size(" + thing + ")", x.size(thing), m.size(thing));
        due("byteOf(" + thing + ", " + i + ")", x.byteOf(thing, i), m.byteOf(thing, i));
        due("name(" + thing + ", " + k + ")", x.name(thing, k), m.name(thing, k));
    }

    private void lookAtAll() {
        due("things()", x.things(), m.things());
        for (int i = 0; i <= m.things(); i++) {
            due("kind(" + i + ")", x.kind(i), m.kind(i));
            due("name(" + i + ", 2)", x.name(i, 2), m.name(i, 2));
            due("reached(" + i + ")", x.reached(i), m.reached(i));
        }
        for (int b = 0; b < 4; b++) {
            due("held(" + b + ")", x.held(b), m.held(b));
        }
        due("pack()", x.pack(), m.pack());
        for (int i = m.packed() - 20; i < m.packed(); i++) {
            due("packByte(" + i + ")", x.packByte(i), m.packByte(i));
        }
    }

    /** Packs of some things, most of them right, some with a fault that is sealed in. */
    private void packs() {
        byte[] pack = someOfPack();
        if (pack.length > 330) {
            return;
        }
        x = PackTool.loaded(pack);
        m = new Model();
        m.load(pack);
        calls = pack.length + 60;
        if (random.nextBoolean()) {
            for (int i = random.nextInt(17); i > 0; i--) {
                due("type(" + i + ", 1)", x.type(i, 1), m.type(i, 1));
                due("blob()", x.blob(), m.blob());
            }
        }
        unpack();
        lookAtAll();
    }

    private byte[] someOfPack() {
        int n = random.nextInt(6) + (random.nextInt(10) == 0 ? 6 : 0);
        byte[][] things = new byte[n][];
        for (int i = 0; i < n; i++) {
            boolean differs = i > 0 && random.nextBoolean();
            things[i] = differs ? someDifference(things, i) : someWhole();
        }
        int told = random.nextInt(30) == 0 ? random.nextInt(20) : n;
        byte[] row = PackTool.join(PackTool.head(told), PackTool.join(things));
        if (random.nextInt(6) == 0) {
            row[random.nextInt(row.length)] = (byte) random.nextInt(256);
        }
        if (random.nextInt(12) == 0) {
            row = Arrays.copyOf(row, Math.max(0, row.length + random.nextInt(8) - 6));
        }
        byte[] pack = PackTool.sealed(row);
        if (random.nextInt(25) == 0) {
            pack[random.nextInt(pack.length)] ^= 4;
        }
        return pack;
    }

    private byte[] someWhole() {
        int n = random.nextInt(8) == 0 ? 110 + random.nextInt(14) : random.nextInt(30);
        byte[] content = new byte[n];
        for (int i = 0; i < n; i++) {
            content[i] = (byte) random.nextInt(3);
        }
        int kind = random.nextInt(25) == 0 ? random.nextInt(8) : 1 + random.nextInt(3);
        byte[] thing = PackTool.whole(kind, content);
        return random.nextInt(6) == 0 ? withLongMark(kind, content) : thing;
    }

    private byte[] withLongMark(int kind, byte[] content) {
        byte[] mark = PackTool.mark(kind, content.length);
        mark[0] |= (byte) 128;
        mark[mark.length - 1] |= (byte) 128;
        byte[] zeros = PackTool.repeat(128, random.nextInt(8));
        return PackTool.join(mark, zeros, PackTool.bytes(random.nextInt(5) == 0 ? random.nextInt(128) : 0),
                PackTool.wrap(content));
    }

    private byte[] someDifference(byte[][] things, int number) {
        int distance = 0;
        int other = number - 1 - random.nextInt(number);
        for (int i = other; i < number; i++) {
            distance += things[i].length;
        }
        if (random.nextInt(25) == 0) {
            distance += random.nextInt(5) - 2;
        }
        byte[] steps = someSteps(things[other]);
        byte[] back = Math.max(0, distance) < 128 ? PackTool.bytes(Math.max(0, distance)) : widely(distance);
        return PackTool.join(PackTool.mark(6, steps.length), back, PackTool.wrap(steps));
    }

    /** A distance of two bytes, its second one now and then above 127. */
    private byte[] widely(int distance) {
        int x128 = (distance - 128) / 128;
        if (x128 > 0 && random.nextBoolean()) {
            x128--;
        }
        return PackTool.bytes(128 + x128, distance - 128 - 128 * x128);
    }

    /** Right steps from the other thing if it is whole and short, or steps with something wrong. */
    private byte[] someSteps(byte[] other) {
        int length = (other[0] & 15) + ((other[0] & 128) != 0 ? 16 * (other[1] & 127) : 0);
        byte[] row = {};
        int out = 0;
        for (int k = random.nextInt(4); k > 0; k--) {
            if (random.nextBoolean() && length > 0) {
                int from = random.nextInt(length);
                int n = random.nextInt(length - from + 1) + (random.nextInt(20) == 0 ? 1 : 0);
                row = PackTool.join(row, PackTool.bytes(145, from, n));
                out += n;
            } else {
                int n = 1 + random.nextInt(5);
                row = PackTool.join(row, PackTool.bytes(n), PackTool.repeat(random.nextInt(3), n));
                out += n;
            }
        }
        row = PackTool.join(PackTool.bytes(length, out), row);
        if (random.nextInt(10) == 0) {
            row[random.nextInt(row.length)] = (byte) random.nextInt(256);
        }
        return random.nextInt(10) == 0 ? Arrays.copyOf(row, random.nextInt(row.length)) : row;
    }

    private void due(String call, long got, long want) {
        calls++;
        CHECK.due(call, got, want);
    }

    private void due(String call, boolean got, boolean want) {
        due(call, got ? 1 : 0, want ? 1 : 0);
    }
}
