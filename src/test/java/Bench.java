import java.util.ArrayList;
import java.util.List;

/** What the tests share: answers are compared, wrong ones printed, and the exit code tells. */
final class Bench {
    /** A call whose exception is looked at. */
    interface Call {
        long run();
    }

    /** How a house is made, again and again alike. */
    interface Maker {
        LinkHouse make();
    }

    private static int wrong = 0;
    private static int asked = 0;

    private Bench() {
    }

    static void due(String what, long got, long want) {
        asked++;
        if (got != want) {
            wrong++;
            System.out.println(what + " answered " + got + ", due is " + want);
        }
    }

    static void due(String what, boolean got, boolean want) {
        due(what, got ? 1 : 0, want ? 1 : 0);
    }

    static void due(String what, String got, String want) {
        asked++;
        if (!got.equals(want)) {
            wrong++;
            System.out.println(what + " answered\n" + got + "\ndue is\n" + want);
        }
    }

    static void due(String what, byte[] got, byte[] want) {
        due(what, hex(got), hex(want));
    }

    static void dueThrow(String what, Class<? extends RuntimeException> want, Call call) {
        String got = "nothing";
        try {
            call.run();
        } catch (RuntimeException e) {
            got = e.getClass().getName();
        }
        due(what + " throws", got, want.getName());
    }

    static void end() {
        System.out.println(asked + " answers, " + wrong + " wrong");
        if (wrong != 0 || asked == 0) {
            System.exit(1);
        }
    }

    static void feed(LinkHouse x, byte[] bytes) {
        for (int i = 0; i < bytes.length; i += 8) {
            int n = Math.min(8, bytes.length - i);
            long v = 0;
            for (int k = 0; k < n; k++) {
                v |= (bytes[i + k] & 255L) << 8 * k;
            }
            x.feed(n, v);
        }
    }

    static void feed(LinkHouse x, String text) {
        feed(x, latin(text));
    }

    static int add(LinkHouse x, byte[] bytes) {
        feed(x, bytes);
        return x.add();
    }

    static int add(LinkHouse x, Elf elf) {
        return add(x, elf.build());
    }

    /** A new house with these files, each of which has to be taken in. */
    static LinkHouse house(Elf... files) {
        LinkHouse x = new LinkHouse();
        for (Elf file : files) {
            due("add", add(x, file), 0);
        }
        return x;
    }

    static int give(LinkHouse x, String name, long value) {
        feed(x, name);
        return x.give(value);
    }

    static int wish(LinkHouse x, String name) {
        feed(x, name);
        return x.wish();
    }

    static long address(LinkHouse x, String name) {
        feed(x, name);
        return x.address();
    }

    /** Eight bytes a call, since an object promises no more than 512 calls. */
    static byte[] out(LinkHouse x) {
        byte[] bytes = new byte[(int) x.look(2)];
        for (int i = 0; i < bytes.length; i += 8) {
            set(bytes, i, Math.min(8, bytes.length - i), x.out(i));
        }
        return bytes;
    }

    /** All of OUT, read from houses that are made alike: the calls of one would not do. */
    static byte[] out(Maker maker) {
        byte[] bytes = new byte[(int) maker.make().look(2)];
        for (int from = 0; from < bytes.length; from += 480) {
            LinkHouse x = maker.make();
            for (int i = from; i < bytes.length && i < from + 480; i += 8) {
                set(bytes, i, Math.min(8, bytes.length - i), x.out(i));
            }
        }
        return bytes;
    }

    static String outText(LinkHouse x) {
        StringBuilder text = new StringBuilder();
        for (byte b : out(x)) {
            text.append((char) (b & 255));
        }
        return text.toString();
    }

    static long num(byte[] bytes, int at, int n) {
        long v = 0;
        for (int k = n - 1; k >= 0; k--) {
            v = v << 8 | (bytes[at + k] & 255);
        }
        return v;
    }

    static void set(byte[] bytes, int at, int n, long v) {
        for (int k = 0; k < n; k++) {
            bytes[at + k] = (byte) (v >>> 8 * k);
        }
    }

    /** A copy with n bytes changed. */
    static byte[] with(byte[] bytes, int at, int n, long v) {
        byte[] changed = bytes.clone();
        set(changed, at, n, v);
        return changed;
    }

    static byte[] latin(String text) {
        byte[] bytes = new byte[text.length()];
        for (int k = 0; k < bytes.length; k++) {
            bytes[k] = (byte) text.charAt(k);
        }
        return bytes;
    }

    static byte[] bytes(int... values) {
        byte[] bytes = new byte[values.length];
        for (int k = 0; k < bytes.length; k++) {
            bytes[k] = (byte) values[k];
        }
        return bytes;
    }

    static byte[] join(byte[]... rows) {
        List<Byte> all = new ArrayList<>();
        for (byte[] row : rows) {
            for (byte b : row) {
                all.add(b);
            }
        }
        byte[] bytes = new byte[all.size()];
        for (int k = 0; k < bytes.length; k++) {
            bytes[k] = all.get(k);
        }
        return bytes;
    }

    static String hex(byte[] bytes) {
        StringBuilder text = new StringBuilder();
        for (byte b : bytes) {
            text.append(String.format("%02x", b & 255));
        }
        return text.toString();
    }

    /** An archive's member: the first bytes ahead are its name. */
    static byte[] member(String name, byte[] bytes) {
        byte[] ahead = latin(String.format("%-48s%-10d`\n", name, bytes.length));
        return bytes.length % 2 == 1 ? join(ahead, bytes, bytes(10)) : join(ahead, bytes);
    }

    static byte[] archive(byte[]... members) {
        return join(latin("!<arch>\n"), join(members));
    }
}
