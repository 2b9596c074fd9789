import java.util.NoSuchElementException;

/** Promises 5 (layout, segments, threads, pool, the file), 19 section and 20 place. */
final class LayoutTest {
    private static final int ROWS = 64;

    public static void main(String[] args) {
        threeSegments();
        head();
        orderOfLayout();
        leftOut();
        emptySectionsWithAlign();
        zerosAlone();
        threads();
        threadZerosAlone();
        threadBytesAlone();
        noTemplate();
        commons();
        pool();
        poolAlone();
        notStrings();
        tooMuchMemory();
        tooMuchFile();
        refusals();
        Bench.end();
    }

    /** Flags, file place, address, file bytes and memory bytes of row k of the file in OUT. */
    private static void dueRow(LinkHouse x, int k, long type, long... want) {
        int at = ROWS + 56 * k;
        Bench.due("type and flags of row " + k, x.out(at), want[0] << 32 | type);
        Bench.due("file place of row " + k, x.out(at + 8), want[1]);
        Bench.due("address of row " + k, x.out(at + 16), want[2]);
        Bench.due("address again of row " + k, x.out(at + 24), want[2]);
        Bench.due("file bytes of row " + k, x.out(at + 32), want[3]);
        Bench.due("memory of row " + k, x.out(at + 40), want[4]);
        Bench.due("align of row " + k, x.out(at + 48), type == 1 ? 4096 : want[5]);
    }

    private static void duePlaces(LinkHouse x, long... want) {
        for (int i = 0; i < want.length; i++) {
            Bench.due("place(" + i + ")", x.place(i), want[i]);
        }
        Bench.dueThrow("place behind the last", NoSuchElementException.class,
                () -> x.place(want.length));
    }

    private static Elf wishes() {
        Elf elf = new Elf();
        elf.undefined("_etext");
        elf.undefined("_edata");
        elf.undefined("__bss_start");
        elf.undefined("_end");
        return elf;
    }

    private static void dueOwn(LinkHouse x, long text, long data, long bss, long end) {
        Bench.due("_etext", Bench.address(x, "_etext"), text);
        Bench.due("_edata", Bench.address(x, "_edata"), data);
        Bench.due("__bss_start", Bench.address(x, "__bss_start"), bss);
        Bench.due("_end", Bench.address(x, "_end"), end);
    }

    private static void threeSegments() {
        Elf elf = new Elf();
        int data = elf.section(1, Elf.DATA, 8, Bench.bytes(0x21, 0x22));
        int zeros = elf.zeros(Elf.DATA, 16, 10);
        int text = elf.text(1, 2, 3);
        int constants = elf.section(1, Elf.ALLOC, 4, Bench.bytes(0x11, 0x12, 0x13, 0x14, 0x15));
        elf.global("_start", text, 2);
        elf.common("c", 32, 4);
        LinkHouse x = Bench.house(elf, wishes());
        Bench.due("link", x.link(false), 0);
        Bench.due("bytes", x.look(2), 274);
        Bench.due("segments", x.look(7), 3);
        Bench.due("rows", x.out(56) & 0xffff, 3);
        Bench.due("ENTRY", x.out(24), 0x4000f2);
        dueRow(x, 0, 1, 5, 0xf0, 0x4000f0, 3, 3);
        dueRow(x, 1, 1, 4, 0x100, 0x401100, 5, 5);
        dueRow(x, 2, 1, 6, 0x110, 0x402110, 2, 0x34);
        duePlaces(x, 0x4000f0, 0x401100, 0x402110, 0x402120);
        Bench.due("text", x.out(0xf0), 0x030201);
        Bench.due("constants", x.out(0x100), 0x1514131211L);
        Bench.due("data", x.out(0x110), 0x2221);
        dueOwn(x, 0x4000f3, 0x402112, 0x402120, 0x402144);
        Bench.due("the common one", Bench.address(x, "c"), 0x402140);
        int[][] rows = {{text, 0, 3}, {constants, 1, 5}, {data, 2, 2}, {zeros, 3, 10}};
        for (int i = 0; i < rows.length; i++) {
            Bench.due("file", x.section(i, 0), 0);
            Bench.due("member", x.section(i, 1), 0);
            Bench.due("number", x.section(i, 2), rows[i][0]);
            Bench.due("group", x.section(i, 3), rows[i][1]);
            Bench.due("size", x.section(i, 4), rows[i][2]);
        }
    }

    private static void head() {
        LinkHouse x = Bench.house(Elf.program());
        x.link(false);
        byte[] file = Bench.out(x);
        Bench.due("the head", Bench.hex(file).substring(0, 128),
                "7f454c46020101000000000000000000" + "02003e00010000008000400000000000"
                + "40000000000000000000000000000000" + "00000000400038000100000000000000");
        Bench.due("the row", Bench.hex(file).substring(128, 240),
                "01000000050000008000000000000000" + "80004000000000008000400000000000"
                + "02000000000000000200000000000000" + "0010000000000000");
        Bench.due("0s up to the segment, and it", Bench.hex(file).substring(240),
                "0000000000000000" + "90c3");
    }

    private static void orderOfLayout() {
        Elf first = new Elf();
        first.zeros(Elf.THREADS, 1, 1);
        first.zeros(Elf.DATA, 1, 1);
        first.data(1);
        first.section(1, Elf.THREADS, 1, new byte[1]);
        first.readOnly(1);
        first.global("_start", first.text(1), 0);
        Elf second = new Elf();
        second.text(2);
        second.data(2);
        second.readOnly(2);
        // more flags than one: threads' go first, then type 8, then code, then writing
        second.section(1, 0x407, 1, new byte[1]);
        second.zeros(0x406, 1, 1);
        second.zeros(7, 1, 1);
        second.section(1, 7, 1, new byte[1]);
        LinkHouse x = Bench.house(first, second);
        Bench.due("link", x.link(false), 0);
        StringBuilder order = new StringBuilder();
        for (int i = 0; i < x.look(6); i++) {
            order.append(x.section(i, 3)).append(':').append(x.section(i, 0)).append('.')
                    .append(x.section(i, 2)).append(' ');
        }
        Bench.due("the order", order.toString(), "0:0.6 0:1.1 0:1.7 1:0.5 1:1.3 4:0.4 4:1.4 "
                + "5:0.1 5:1.5 2:0.3 2:1.2 3:0.2 3:1.6 ");
    }

    private static void leftOut() {
        Elf elf = Elf.program();
        elf.section(1, Elf.ALLOC, 4096, new byte[0]);
        elf.section(1, Elf.DATA, 64, new byte[0]);
        elf.zeros(Elf.DATA, 4096, 0);
        elf.common("c", 16, 0);
        LinkHouse x = Bench.house(elf, wishes());
        Bench.due("link", x.link(false), 0);
        Bench.due("segments", x.look(7), 1);
        duePlaces(x, 0x400080, 0x401000, 0x401000, 0x401000);
        dueOwn(x, 0x400082, 0x401000, 0x401000, 0x401000);
        Bench.due("the common one", Bench.address(x, "c"), 0x401000);
        Bench.due("TP", x.look(15), 0x401000);
        Elf data = new Elf();
        data.section(1, Elf.TEXT, 64, new byte[0]);
        data.global("_start", data.data(1, 2), 0);
        LinkHouse y = Bench.house(data, wishes());
        Bench.due("link", y.link(false), 0);
        duePlaces(y, 0x400000, 0x400080);
        dueOwn(y, 0x400000, 0x400082, 0x400082, 0x400082);
    }

    private static void emptySectionsWithAlign() {
        Elf elf = Elf.program();
        elf.section(1, Elf.TEXT, 256, new byte[0]);
        LinkHouse x = Bench.house(elf, wishes());
        Bench.due("link", x.link(false), 0);
        dueRow(x, 0, 1, 5, 0x80, 0x400080, 0x80, 0x80);
        Bench.due("_etext", Bench.address(x, "_etext"), 0x400100);
        Bench.due("_end", Bench.address(x, "_end"), 0x401000);
    }

    private static void zerosAlone() {
        Elf elf = new Elf();
        elf.global("_start", elf.zeros(Elf.DATA, 32, 100), 4);
        LinkHouse x = Bench.house(elf, wishes());
        Bench.due("link", x.link(false), 0);
        Bench.due("the file reaches up to the file place", x.look(2), 0x80);
        dueRow(x, 0, 1, 6, 0x80, 0x400080, 0, 100);
        dueOwn(x, 0x400000, 0x400080, 0x400080, 0x4000e4);
    }

    private static void threads() {
        Elf elf = Elf.program();
        elf.section(1, Elf.THREADS, 4, Bench.bytes(1, 2, 3, 4));
        elf.zeros(Elf.THREADS, 16, 8);
        elf.data(8, 9);
        LinkHouse x = Bench.house(elf, wishes());
        Bench.due("link", x.link(false), 0);
        Bench.due("segments", x.look(7), 2);
        Bench.due("rows", x.out(56) & 0xffff, 3);
        dueRow(x, 1, 1, 6, 0x100, 0x401100, 6, 6);
        dueRow(x, 2, 7, 4, 0x100, 0x401100, 4, 0x18, 16);
        duePlaces(x, 0x4000f0, 0x401100, 0x401110, 0x401104);
        Bench.due("TP", x.look(15), 0x401120);
        Bench.due("bytes", x.out(0x100), 0x090804030201L);
        dueOwn(x, 0x4000f2, 0x401106, 0x401106, 0x401106);
    }

    private static void threadZerosAlone() {
        Elf elf = Elf.program();
        elf.zeros(Elf.THREADS, 64, 5);
        elf.zeros(Elf.THREADS, 0, 3);
        LinkHouse x = Bench.house(elf);
        Bench.due("link", x.link(false), 0);
        dueRow(x, 1, 1, 6, 0x100, 0x401100, 0, 0);
        dueRow(x, 2, 7, 4, 0x100, 0x401100, 0, 8, 64);
        Bench.due("TP", x.look(15), 0x401140);
        Bench.due("bytes", x.look(2), 0x100);
    }

    private static void threadBytesAlone() {
        Elf elf = Elf.program();
        elf.section(1, Elf.THREADS, 64, Bench.bytes(1, 2, 3));
        LinkHouse x = Bench.house(elf);
        Bench.due("link", x.link(false), 0);
        dueRow(x, 1, 1, 6, 0x100, 0x401100, 3, 3);
        dueRow(x, 2, 7, 4, 0x100, 0x401100, 3, 3, 64);
        Elf code = new Elf();
        code.global("_start", code.text(new int[20]), 0);
        code.section(1, Elf.THREADS, 64, Bench.bytes(1, 2, 3));
        LinkHouse y = Bench.house(code);
        Bench.due("link", y.link(false), 0);
        dueRow(y, 1, 1, 6, 0x110, 0x401110, 0x33, 0x33);
        dueRow(y, 2, 7, 4, 0x140, 0x401140, 3, 3, 64);
        Bench.due("bytes", y.out(0x140), 0x030201);
        Bench.due("TP", y.look(15), 0x401180);
    }

    private static void noTemplate() {
        Elf elf = Elf.program();
        elf.data(1);
        elf.section(1, Elf.THREADS, 256, new byte[0]);
        LinkHouse x = Bench.house(elf);
        Bench.due("link", x.link(false), 0);
        Bench.due("no row for empty ones", x.out(56) & 0xffff, 2);
        Bench.due("but a template", x.look(15), 0x401100);
        Elf plain = Elf.program();
        plain.data(1);
        LinkHouse y = Bench.house(plain);
        y.link(false);
        Bench.due("without one the third segment's address", y.look(15), 0x4010c0);
    }

    private static void commons() {
        Elf elf = Elf.program();
        elf.common("b", 1, 3);
        elf.common("a", 16, 1);
        elf.weak("w", Elf.FIXED, 1);
        elf.common("d", 1, 1);
        elf.common("w", 1, 2);
        LinkHouse x = Bench.house(elf, wishes());
        Bench.due("link", x.link(false), 0);
        Bench.due("b", Bench.address(x, "b"), 0x4010c0);
        Bench.due("a", Bench.address(x, "a"), 0x4010d0);
        Bench.due("w, as its name was first defined", Bench.address(x, "w"), 0x4010d1);
        Bench.due("d", Bench.address(x, "d"), 0x4010d3);
        dueOwn(x, 0x4000b2, 0x4010c0, 0x4010c0, 0x4010d4);
    }

    private static void pool() {
        Elf first = Elf.program();
        int a = first.strings("bc\0xyz\0\0");
        first.global("tail", a, 1);
        first.global("beyond", a, 8);
        first.global("end", a, 7);
        Elf second = new Elf();
        int b = second.strings("abc\0z\0bc\0q\0xyz\0");
        second.readOnly(9, 9);
        second.global("whole", b, 0);
        second.global("part", b, 7);
        LinkHouse x = Bench.house(first, second);
        Bench.due("link", x.link(false), 0);
        // behind the two bytes: xyz, abc, q, each with its 0
        Bench.due("the pool", x.look(14), 10);
        Bench.due("memory", x.out(ROWS + 56 + 40), 12);
        int at = (int) x.out(ROWS + 56 + 8);
        Bench.due("bytes", x.out(at), 0x6261007a79780909L);
        Bench.due("bytes", x.out(at + 8), 0x00710063);
        long pool = x.out(ROWS + 56 + 16) + 2;
        duePlaces(x, 0x4000b0, pool + 5, pool + 4, pool - 2);
        Bench.due("c of bc, in abc", Bench.address(x, "tail"), pool + 6);
        Bench.due("beyond", Bench.address(x, "beyond"), pool + 10);
        Bench.due("an empty string is an end of the first", Bench.address(x, "end"), pool + 3);
        Bench.due("abc", Bench.address(x, "whole"), pool + 4);
        Bench.due("c of bc", Bench.address(x, "part"), pool + 6);
    }

    private static void poolAlone() {
        Elf elf = new Elf();
        elf.global("_start", elf.strings("ab\0b\0"), 3);
        LinkHouse x = Bench.house(elf, wishes());
        Bench.due("link", x.link(false), 0);
        duePlaces(x, 0x400080);
        dueRow(x, 0, 1, 4, 0x80, 0x400080, 3, 3);
        Bench.due("ENTRY", x.out(24), 0x400081);
        dueOwn(x, 0x400000, 0x401000, 0x401000, 0x401000);
    }

    private static void notStrings() {
        Elf elf = Elf.program();
        elf.section(1, Elf.STRINGS, 2, Bench.latin("a\0"));
        elf.strings("a");
        elf.strings("");
        elf.section(1, 0x12, 1, Bench.latin("a\0"));
        elf.section(1, 0x22, 1, Bench.latin("a\0"));
        elf.section(1, 0x33, 1, Bench.latin("a\0"));
        elf.sites(elf.strings("a\0"));
        elf.section(1, Elf.STRINGS, 0, Bench.latin("a\0"));
        LinkHouse x = Bench.house(elf);
        Bench.due("link", x.link(false), 0);
        Bench.due("the last one alone", x.look(14), 2);
        Bench.due("group 1 has all", x.out(ROWS + 56 + 40), 2 + 1 + 2 + 2 + 2 + 2);
    }

    private static void tooMuchMemory() {
        Elf elf = Elf.program();
        for (int k = 0; k < 4; k++) {
            elf.zeros(Elf.DATA, 1, 16384);
        }
        int last = elf.zeros(Elf.DATA, 1, 0);
        elf.strings("pool\0");
        LinkHouse x = Bench.house(elf);
        Bench.due("65536 bytes", x.link(false), 0);
        Bench.due("of memory", x.out(ROWS + 112 + 40), 65536);
        long before = x.look(2);
        Elf more = new Elf();
        int text = more.text(0, 0, 0, 0);
        more.site(more.sites(text), 0, 9, 0, 0);
        Bench.add(x, more);
        Bench.due("8 more", x.link(false), 3);
        Bench.due("OUT stays", x.look(2), before);
        Bench.due("the answer", x.look(3), 3);
        Bench.due("segments", x.look(7), 0);
        Bench.due("slots", x.look(12), 1);
        Bench.due("the pool", x.look(14), 5);
        Bench.due("TP", x.look(15), 0);
        Bench.due("kept sections", x.look(6), 8);
        Bench.dueThrow("section", IllegalStateException.class, () -> x.section(last, 0));
    }

    private static void tooMuchFile() {
        Elf elf = new Elf();
        elf.global("_start", elf.text(1), 0);
        for (int k = 0; k < 15; k++) {
            elf.section(1, Elf.TEXT, 4096, Bench.bytes(1));
        }
        int data = elf.section(1, Elf.DATA, 4096, Bench.bytes(1));
        LinkHouse x = Bench.house(elf);
        Bench.due("file of 65537 bytes", x.link(false), 3);
        Elf less = new Elf();
        less.global("_start", less.text(1), 0);
        for (int k = 0; k < 15; k++) {
            less.section(1, Elf.TEXT, 4096, Bench.bytes(1));
        }
        Bench.due("without the last of " + data, Bench.house(less).link(false), 0);
    }

    private static void refusals() {
        LinkHouse x = Bench.house(Elf.program());
        x.link(false);
        for (int what : new int[] {-1, 5, Integer.MIN_VALUE}) {
            Bench.dueThrow("section what " + what, NoSuchElementException.class,
                    () -> x.section(0, what));
        }
        for (int i : new int[] {-1, 1, Integer.MAX_VALUE}) {
            Bench.dueThrow("section " + i, NoSuchElementException.class, () -> x.section(i, 0));
            Bench.dueThrow("place " + i, NoSuchElementException.class, () -> x.place(i));
        }
        x.drop();
        Bench.due("what a link found stays", x.section(0, 4), 2);
        x.link(false);
        Bench.dueThrow("section", IllegalStateException.class, () -> x.section(0, 0));
        Bench.dueThrow("place", IllegalStateException.class, () -> x.place(-1));
    }
}
