import java.util.Arrays;

/** Executables made by hand. */
final class Exe {
    /** Where the rows begin. */
    static final int ROW = 64;

    private Exe() {
    }

    /** Two rows behind a row of another type: code of 4 bytes, data of 2 in 10. */
    static byte[] good() {
        byte[] b = new byte[64 + 3 * 56 + 6];
        System.arraycopy(Bench.bytes(0x7f, 0x45, 0x4c, 0x46, 2, 1, 1), 0, b, 0, 7);
        Bench.set(b, 16, 2, 2);
        Bench.set(b, 18, 2, 62);
        Bench.set(b, 20, 4, 1);
        Bench.set(b, 24, 8, 0x1001);
        Bench.set(b, 32, 8, ROW);
        Bench.set(b, 54, 2, 56);
        Bench.set(b, 56, 2, 3);
        Arrays.fill(b, ROW, ROW + 56, (byte) 0xff);
        row(b, 1, 5, 232, 0x1000, 4, 4, 0);
        row(b, 2, 0xfffffff6L, 236, 0x2000, 2, 10, 4);
        Bench.set(b, 232, 6, 0x060504030201L);
        return b;
    }

    static void row(byte[] b, int k, long flags, long place, long address, long file,
            long memory, long align) {
        int at = ROW + 56 * k;
        Bench.set(b, at, 4, 1);
        Bench.set(b, at + 4, 4, flags);
        Bench.set(b, at + 8, 8, place);
        Bench.set(b, at + 16, 8, address);
        Bench.set(b, at + 32, 8, file);
        Bench.set(b, at + 40, 8, memory);
        Bench.set(b, at + 48, 8, align);
    }

    /** good() with rows of sections: 0, names of type 3, symbols of type 2. */
    static byte[] named() {
        byte[] text = Bench.latin("\0a\0bc\0a2345678901234567890\0a23456789012345678901\0end");
        byte[] symbols = Bench.join(new byte[24], symbol(1, 0x10, 1, 0x1000),
                symbol(3, 0x21, 0xfff1, 0x1002), symbol(4, 0x20, 5, 0x1001),
                symbol(0, 0x10, 1, 0x1000), symbol(6, 0x10, 1, 0x1003), symbol(27, 0x10, 1, 0x1000),
                symbol(49, 0x10, 1, 0x1000), symbol(1, 0x00, 1, 0x1000),
                symbol(1, 0x30, 1, 0x1000), symbol(1, 0x10, 0, 0x1000),
                symbol(9999, 0x10, 1, 0x1000));
        byte[] b = good();
        int names = b.length;
        int table = names + text.length;
        int rows = table + symbols.length;
        b = Bench.join(b, text, symbols, new byte[3 * 64]);
        Bench.set(b, rows + 64 + 4, 4, 3);
        Bench.set(b, rows + 64 + 24, 8, names);
        Bench.set(b, rows + 64 + 32, 8, text.length);
        Bench.set(b, rows + 128 + 4, 4, 2);
        Bench.set(b, rows + 128 + 24, 8, table);
        Bench.set(b, rows + 128 + 32, 8, symbols.length);
        Bench.set(b, rows + 128 + 40, 4, 1);
        Bench.set(b, 40, 8, rows);
        Bench.set(b, 58, 2, 64);
        Bench.set(b, 60, 2, 3);
        return b;
    }

    static byte[] symbol(int name, int info, int where, long value) {
        byte[] row = new byte[24];
        Bench.set(row, 0, 4, name);
        Bench.set(row, 4, 1, info);
        Bench.set(row, 6, 2, where);
        Bench.set(row, 8, 8, value);
        return row;
    }
}
