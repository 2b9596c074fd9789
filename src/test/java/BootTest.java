import java.util.Arrays;

/** Promises 21 boot, 22 peek, 23 flags and 12 near, by hand-made executables. */
final class BootTest {
    private static final int ROW = Exe.ROW;

    public static void main(String[] args) {
        heads();
        rows();
        fileBytes();
        fields();
        order();
        entry();
        memory();
        staysOnErrors();
        names();
        Bench.end();
    }

    private static byte[] withRow(int k, int field, long v) {
        return Bench.with(Exe.good(), ROW + 56 * k + field, 8, v);
    }

    private static void due(String what, byte[] executable, int want) {
        LinkHouse x = new LinkHouse();
        Bench.feed(x, executable);
        Bench.due(what, x.boot(true), want);
        Bench.due("the tape is used up", x.look(1), 0);
        Bench.due("look 11", x.look(11), want);
        Bench.due("loaded rows", x.look(9) > 0, want == 0);
    }

    private static void heads() {
        byte[] good = Exe.good();
        due("good", good, 0);
        due("63 bytes", Arrays.copyOf(good, 63), 1);
        due("byte 0", Bench.with(good, 0, 1, 0), 1);
        due("byte 6", Bench.with(good, 6, 1, 2), 1);
        due("byte 7 is free", Bench.with(good, 7, 1, 2), 0);
        due("at 16", Bench.with(good, 16, 2, 1), 1);
        due("at 18", Bench.with(good, 18, 2, 63), 1);
        due("at 20", Bench.with(good, 20, 4, 2), 1);
        due("at 52 is free", Bench.with(good, 52, 2, 2), 0);
        due("at 54", Bench.with(good, 54, 2, 57), 1);
    }

    private static void rows() {
        byte[] good = Exe.good();
        due("9 rows", Bench.with(Arrays.copyOf(good, 1000), 56, 2, 9), 2);
        due("rows behind the end", Bench.with(good, 32, 8, good.length - 3 * 56 + 1), 2);
        due("rows far away", Bench.with(good, 32, 8, -56), 2);
        due("no rows", Bench.with(good, 56, 2, 0), 6);
        due("no rows, and their place is behind the end",
                Bench.with(Bench.with(good, 56, 2, 0), 32, 8,
                good.length + 1), 2);
        due("no rows in 64 bytes", Arrays.copyOf(Bench.with(good, 56, 2, 0), 64), 6);
        byte[] eight = Arrays.copyOf(good, 64 + 8 * 56);
        Bench.set(eight, 56, 2, 8);
        Bench.set(eight, ROW + 3 * 56, 8, 0);
        for (int k = 3; k < 8; k++) {
            Bench.set(eight, ROW + 56 * k, 4, 2);
        }
        due("8 rows", eight, 0);
    }

    private static void fileBytes() {
        due("FILE beyond", withRow(2, 32, 3), 3);
        due("FILE above all", withRow(2, 32, -1), 3);
        due("PLACE above all", withRow(1, 8, -1), 3);
        byte[] none = withRow(2, 32, 0);
        due("none, at the end",
                Bench.with(Bench.with(none, ROW + 120, 8, 238), ROW + 160, 8, 1), 0);
        due("none, behind the end",
                Bench.with(Bench.with(none, ROW + 120, 8, 239), ROW + 160, 8, 1), 3);
        due("a row that is not loaded", Bench.with(withRow(2, 32, 3), ROW + 112, 4, 2), 0);
    }

    private static void fields() {
        due("MEMORY below FILE", withRow(2, 40, 1), 4);
        due("MEMORY 65536", withRow(2, 40, 65536), 0);
        due("MEMORY 65537", withRow(2, 40, 65537), 4);
        due("MEMORY above all", withRow(2, 40, -1), 4);
        due("ADDRESS 2^47", withRow(2, 16, 1L << 47), 0);
        due("ADDRESS above", withRow(2, 16, (1L << 47) + 4), 4);
        due("ADDRESS above all", withRow(2, 16, -4), 4);
        due("ALIGN 3", withRow(2, 48, 3), 4);
        due("ALIGN 1", withRow(2, 48, 1), 0);
        due("ALIGN 8: 236 and 0x2000 differ", withRow(2, 48, 8), 4);
        due("ALIGN 2^63 with another PLACE", withRow(2, 48, Long.MIN_VALUE), 4);
        byte[] equal = withRow(2, 48, Long.MIN_VALUE);
        Bench.set(equal, ROW + 56 + 16, 8, 0);
        Bench.set(equal, 24, 8, 0);
        due("ALIGN 2^63 with the same", Bench.with(equal, ROW + 112 + 16, 8, 236), 0);
        due("3 before 4", Bench.with(withRow(2, 32, 30), ROW + 112 + 40, 8, 1), 3);
        due("4 of the first before 3 of the second",
                Bench.with(withRow(1, 48, 3), ROW + 112 + 32, 8,
                30), 4);
    }

    private static void order() {
        due("at the end of the one before", withRow(2, 16, 0x1004), 0);
        due("below it", withRow(2, 16, 0x1000), 5);
        due("far below it", withRow(2, 16, 0), 5);
        due("4 before 5", withRow(2, 16, 0x1001), 4);
    }

    private static void entry() {
        byte[] good = Exe.good();
        due("ENTRY the first byte", Bench.with(good, 24, 8, 0x1000), 0);
        due("ENTRY the last byte", Bench.with(good, 24, 8, 0x1003), 0);
        due("ENTRY behind it", Bench.with(good, 24, 8, 0x1004), 6);
        due("ENTRY before it", Bench.with(good, 24, 8, 0xfff), 6);
        due("ENTRY in a row without bit 0", Bench.with(good, 24, 8, 0x2000), 6);
        due("ENTRY in 0s of one with bit 0",
                Bench.with(Bench.with(good, 24, 8, 0x2009), ROW + 116, 4, 1), 0);
        due("5 before 6", Bench.with(withRow(2, 16, 0), 24, 8, 0), 5);
    }

    private static void memory() {
        LinkHouse x = new LinkHouse();
        Bench.feed(x, Exe.good());
        x.boot(true);
        Bench.due("rows", x.look(9), 2);
        Bench.due("ENTRY", x.look(10), 0x1001);
        int[] bytes = {1, 2, 3, 4};
        for (int k = 0; k < 4; k++) {
            Bench.due("peek", x.peek(0x1000 + k), bytes[k]);
            Bench.due("flags", x.flags(0x1000 + k), 5);
        }
        Bench.due("file bytes", x.peek(0x2001), 6);
        Bench.due("0s behind them", x.peek(0x2002), 0);
        Bench.due("the last", x.peek(0x2009), 0);
        Bench.due("flags", x.flags(0x2009), 0xfffffff6L);
        for (long address : new long[] {0xfff, 0x1004, 0x1fff, 0x200a, -1, Long.MIN_VALUE, 0}) {
            Bench.due("no byte", x.peek(address), -1);
            Bench.due("no row", x.flags(address), -1);
            Bench.due("no name", x.near(address), -1);
        }
        x.feed(8, 1);
        Bench.due("boot of a bad OUT", x.boot(false), 1);
        Bench.due("the tape stays", x.look(1), 8);
    }

    private static void staysOnErrors() {
        LinkHouse x = Bench.house(Elf.program());
        x.link(false);
        Bench.due("boot", x.boot(false), 0);
        Bench.due("OUT stays", x.look(2), 130);
        Bench.feed(x, Exe.good());
        x.feed(1, 0);
        Bench.due("a good one", x.boot(true), 0);
        Bench.feed(x, Bench.with(Exe.good(), 24, 8, 0));
        Bench.due("a bad one", x.boot(true), 6);
        Bench.due("look 11", x.look(11), 6);
        Bench.due("memory stays", x.peek(0x1000), 1);
        Bench.due("ENTRY stays", x.look(10), 0x1001);
        Bench.due("rows stay", x.look(9), 2);
        Bench.due("boot", x.boot(false), 0);
        Bench.due("memory is another", x.peek(0x1000), -1);
        Bench.due("rows", x.look(9), 1);
    }

    private static void dueNames(String what, byte[] executable, long want) {
        LinkHouse x = new LinkHouse();
        Bench.feed(x, executable);
        Bench.due(what + ": boot", x.boot(true), 0);
        Bench.due(what, x.look(18), want);
    }

    private static void names() {
        byte[] good = Exe.named();
        int table = Elf.rowOf(good, 2);
        int text = Elf.rowOf(good, 1);
        dueNames("names of memory", good, 4);
        dueNames("at 58", Bench.with(good, 58, 2, 63), 0);
        dueNames("no rows", Bench.with(good, 60, 2, 0), 0);
        dueNames("25 rows", Bench.with(Arrays.copyOf(good, 4000), 60, 2, 25), 0);
        dueNames("rows beyond", Bench.with(good, 40, 8, good.length - 191), 0);
        dueNames("rows far away", Bench.with(good, 40, 8, -1), 0);
        dueNames("SIZE 0", Bench.with(good, table + 32, 8, 0), 0);
        dueNames("SIZE no multiple of 24", Bench.with(good, table + 32, 8, 47), 0);
        dueNames("SIZE above all", Bench.with(good, table + 32, 8, -24), 0);
        dueNames("one symbol", Bench.with(good, table + 32, 8, 24), 0);
        dueNames("two symbols", Bench.with(good, table + 32, 8, 48), 1);
        dueNames("LINK to another", Bench.with(good, table + 40, 4, 2), 0);
        dueNames("LINK beyond", Bench.with(good, table + 40, 4, 3), 0);
        dueNames("names beyond", Bench.with(good, text + 24, 8, -1), 0);
        dueNames("fewer names", Bench.with(good, text + 32, 8, 3), 1);
        dueNames("the first of type 2 counts", Bench.with(good, text + 4, 4, 2), 0);
        byte[] beyond = good.clone();
        System.arraycopy(good, table, beyond, text, 64);
        System.arraycopy(good, text, beyond, table, 64);
        Bench.set(beyond, text + 40, 4, 2);
        dueNames("names behind symbols", beyond, 4);
        dueNames("names behind the last row", Bench.with(beyond, 60, 2, 2), 0);
        byte[] many = Arrays.copyOf(good, good.length + 21 * 64);
        dueNames("24 rows", Bench.with(many, 60, 2, 24), 4);
        LinkHouse x = new LinkHouse();
        Bench.feed(x, good);
        x.boot(true);
        Bench.due("near", x.near(0x1000), 0);
        Bench.due("OUT", Bench.outText(x), "a");
        Bench.due("near", x.near(0x1001), 0);
        Bench.due("OUT", Bench.outText(x), "c");
        Bench.due("near", x.near(0x2005), 0x1002);
        Bench.due("20 bytes", Bench.outText(x), "a2345678901234567890");
    }
}
