/** Promise 11 named, and promise 12 near on what it writes. */
final class NamedTest {
    public static void main(String[] args) {
        form();
        segments();
        near();
        tooLarge();
        refusals();
        Bench.end();
    }

    private static void dueSymbol(byte[] o, int at, long name, long info, long... rest) {
        Bench.due("name", Bench.num(o, at, 4), name);
        Bench.due("byte at 4", Bench.num(o, at + 4, 2), info);
        Bench.due("WHERE", Bench.num(o, at + 6, 2), rest[0]);
        Bench.due("address", Bench.num(o, at + 8, 8), rest[1]);
        Bench.due("SIZE", Bench.num(o, at + 16, 8), rest[2]);
    }

    private static void dueRow(byte[] o, int i, long... want) {
        int at = Elf.rowOf(o, i);
        int[] fields = {0, 4, 8, 16, 24, 32, 40, 44, 48, 56};
        int[] widths = {4, 4, 8, 8, 8, 8, 4, 4, 8, 8};
        for (int k = 0; k < fields.length; k++) {
            long due = k == 0 ? 0 : want[k - 1];
            Bench.due("row " + i + " at " + fields[k], Bench.num(o, at + fields[k], widths[k]),
                    due);
        }
    }

    private static void form() {
        LinkHouse x = new LinkHouse();
        Bench.give(x, "g", 9);
        Elf elf = new Elf();
        int text = elf.text(1, 2, 3);
        int data = elf.data(4);
        elf.symbol("_start", Elf.GLOBAL, 2, text, 1, 2);
        elf.symbol("d", Elf.WEAK, 1, data, 0, 1);
        elf.symbol("c", Elf.WEAK, 1, Elf.COMMON, 4, 8);
        elf.symbol("f", Elf.GLOBAL, 1, Elf.FIXED, 5, 3);
        elf.undefined("_end");
        Bench.add(x, elf);
        Bench.due("link", x.link(false), 0);
        byte[] file = Bench.out(x);
        int symbols = (file.length + 7) / 8 * 8;
        int names = symbols + 6 * 24;
        int letters = 1 + 2 + 7 + 2 + 2 + 2;
        int rows = names + (letters + 7) / 8 * 8;
        x.forget();
        x.drop();
        Bench.due("named", x.named(), rows + 5 * 64);
        byte[] o = Bench.out(x);
        Bench.due("where the rows begin", Bench.num(o, 40, 8), rows);
        Bench.due("at 58", Bench.num(o, 58, 2), 64);
        Bench.due("how many", Bench.num(o, 60, 2), 5);
        Bench.due("the last one", Bench.num(o, 62, 2), 4);
        Bench.set(file, 40, 8, rows);
        Bench.set(file, 58, 6, 64 + (5L << 16) + (4L << 32));
        Bench.due("else the file", Bench.hex(o).substring(0, 2 * file.length), Bench.hex(file));
        dueSymbol(o, symbols, 0, 0, 0, 0, 0);
        dueSymbol(o, symbols + 24, 1, 0x10, 0xfff1, 9, 0);
        dueSymbol(o, symbols + 48, 3, 0x12, 1, 0x4000b1, 2);
        dueSymbol(o, symbols + 72, 10, 0x21, 2, 0x4010c0, 1);
        dueSymbol(o, symbols + 96, 12, 0x10, 2, 0x4010c4, 8);
        dueSymbol(o, symbols + 120, 14, 0x11, 0xfff1, 5, 3);
        Bench.due("names", Bench.hex(o).substring(2 * names, 2 * (names + letters)),
                Bench.hex(Bench.latin("\0g\0_start\0d\0c\0f\0")));
        for (int at = names + letters; at < rows; at++) {
            Bench.due("0s behind the names", o[at], 0);
        }
        dueRow(o, 0, 0, 0, 0, 0, 0, 0, 0, 0, 0);
        dueRow(o, 1, 1, 6, 0x4000b0, 0xb0, 3, 0, 0, 16, 0);
        dueRow(o, 2, 1, 3, 0x4010c0, 0xc0, 1, 0, 0, 16, 0);
        dueRow(o, 3, 2, 0, 0, symbols, 6 * 24, 4, 1, 8, 24);
        dueRow(o, 4, 3, 0, 0, names, letters, 0, 0, 1, 0);
        for (int k = 0; k < 2; k++) {
            Bench.due("named again", x.named(), o.length);
            Bench.due("the same", Bench.out(x), o);
        }
    }

    private static void segments() {
        Elf elf = new Elf();
        int constants = elf.readOnly(1);
        int empty = elf.section(1, Elf.TEXT, 1, new byte[0]);
        elf.global("_start", constants, 0);
        elf.global("e", empty, 0);
        LinkHouse x = Bench.house(elf);
        x.link(false);
        x.named();
        byte[] o = Bench.out(x);
        int symbols = (int) Bench.num(o, Elf.rowOf(o, 2) + 24, 8);
        Bench.due("the second segment is the first row", Bench.num(o, symbols + 24 + 6, 2), 1);
        Bench.due("its flags", Bench.num(o, Elf.rowOf(o, 1) + 8, 8), 2);
        Bench.due("of one left out", Bench.num(o, symbols + 48 + 6, 2), 0xfff1);
    }

    private static void near() {
        Elf elf = new Elf();
        int text = elf.text(new int[32]);
        elf.global("low", text, 4);
        elf.global("_start", text, 8);
        elf.global("same", text, 8);
        elf.global("high", text, 20);
        elf.local(0, text, 24);
        elf.global("far", Elf.FIXED, -1);
        LinkHouse x = Bench.house(elf);
        x.link(false);
        x.named();
        Bench.due("boot", x.boot(false), 0);
        Bench.due("names of memory", x.look(18), 5);
        long base = x.look(10) - 8;
        Bench.due("above _start", x.near(base + 10), 2);
        Bench.due("of several the first one", Bench.outText(x), "_start");
        Bench.due("at high", x.near(base + 20), 0);
        Bench.due("OUT", Bench.outText(x), "high");
        Bench.due("the last byte", x.near(base + 31), 11);
        Bench.due("no byte there", x.near(base + 32), -1);
        Bench.due("no name there", x.near(base + 3), -1);
        Bench.due("OUT stays", Bench.outText(x), "high");
        Bench.due("no byte there", x.near(-1), -1);
        x.link(false);
        Bench.due("boot of a file without names", x.boot(false), 0);
        Bench.due("they go with memory", x.look(18), 0);
        Bench.due("no names", x.near(base + 10), -1);
    }

    private static void tooLarge() {
        Elf elf = new Elf();
        elf.global("_start", elf.text(1), 0);
        for (int k = 0; k < 15; k++) {
            elf.section(1, Elf.TEXT, 4096, Bench.bytes(1));
        }
        elf.section(1, Elf.TEXT, 2048, new byte[0]);
        elf.section(1, Elf.TEXT, 1, new byte[1400]);
        for (int k = 0; k < 20; k++) {
            elf.global("n" + k, Elf.FIXED, 0);
        }
        LinkHouse x = Bench.house(elf);
        Bench.due("link", x.link(false), 0);
        long size = x.look(2);
        Bench.due("a large file", size > 64000 && size < 65536, true);
        Bench.due("named", x.named(), -1);
        Bench.due("OUT stays", x.look(2), size);
    }

    private static void refusals() {
        LinkHouse x = Bench.house(Elf.program());
        Bench.dueThrow("no link", IllegalStateException.class, () -> x.named());
        x.link(false);
        Bench.due("named", x.named() > 130, true);
        Bench.due("again the same", x.named(), x.look(2));
        x.drop();
        x.link(false);
        Bench.dueThrow("not done", IllegalStateException.class, () -> x.named());
    }
}
