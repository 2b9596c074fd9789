/** Promises 5, 19, 20 and 25 at their limits: where segments begin and end, and what is 3. */
final class LayoutEdgesTest {
    private static final int ROWS = 64;

    public static void main(String[] args) {
        filePlaces();
        pages();
        fullSegments();
        fullFile();
        threeGoesBeforeFour();
        oneByteOfEach();
        emptySections();
        firstZeros();
        templates();
        templateAgain();
        templateAlone();
        threadZerosHaveNoBytes();
        stringsHaveNoBytes();
        emptyStrings();
        poolInOrder();
        segmentsAgain();
        sectionsAsked();
        Bench.end();
    }

    private static LinkHouse linked(Elf... files) {
        LinkHouse x = Bench.house(files);
        Bench.due("link", x.link(false), 0);
        return x;
    }

    private static long row(LinkHouse x, int k, int field) {
        return x.out(ROWS + 56 * k + field);
    }

    private static Elf sized(int text, int data) {
        Elf elf = new Elf();
        elf.global("_start", elf.shared(Elf.TEXT, 1, text / 2), 0);
        elf.shared(Elf.TEXT, 1, text - text / 2);
        elf.data(new int[data]);
        return elf;
    }

    /** The next multiple of 16 is the place itself, if it is one. */
    private static void filePlaces() {
        int[][] due = {{1, 0xc0}, {15, 0xc0}, {16, 0xc0}, {17, 0xd0}, {32, 0xd0}, {33, 0xe0}};
        for (int[] d : due) {
            LinkHouse x = linked(sized(d[0], 3));
            Bench.due("file place behind " + d[0] + " bytes", row(x, 1, 8), d[1]);
            Bench.due("address", row(x, 1, 16), 0x401000 + d[1]);
            Bench.due("bytes of the file", x.look(2), d[1] + 3);
        }
    }

    /** The next multiple of 4096 is the end itself, if it is one. */
    private static void pages() {
        LinkHouse x = linked(sized(0xf50, 1));
        Bench.due("place", row(x, 1, 8), 0x1000);
        Bench.due("from the end on", row(x, 1, 16), 0x401000);
        x = linked(sized(0xf51, 1));
        Bench.due("place", row(x, 1, 8), 0x1010);
        Bench.due("a page further, modulo part and all", row(x, 1, 16), 0x402010);
        x = linked(sized(0xf4f, 1));
        Bench.due("place", row(x, 1, 8), 0x1000);
        Bench.due("one byte less", row(x, 1, 16), 0x401000);
    }

    /** A segment of one group that is long by its sections' ALIGN; the last section has so many. */
    private static Elf filled(int group, int last) {
        Elf elf = new Elf();
        elf.global("_start", Elf.FIXED, 1);
        long flags = group == 0 ? Elf.TEXT : group == 1 ? Elf.ALLOC : Elf.DATA;
        for (int k = 0; k < 16; k++) {
            elf.section(1, flags, k == 0 ? 1 : 4096, Bench.bytes(1));
        }
        elf.shared(flags, 1, last / 2);
        elf.shared(flags, 1, last - last / 2);
        return elf;
    }

    private static void fullSegments() {
        // from 0x80 on in the file; the last but one ends 0xef81 behind that
        for (int group = 0; group < 3; group++) {
            LinkHouse x = Bench.house(filled(group, 0xfff));
            Bench.due("link", x.link(false), 0);
            Bench.due("memory", row(x, 0, 40), 0xff80);
            Bench.due("the file", x.look(2), 65536);
            Bench.due("a byte more", Bench.house(filled(group, 0x1000)).link(false), 3);
        }
        Elf zeros = new Elf();
        zeros.global("_start", Elf.FIXED, 1);
        for (int k = 0; k < 4; k++) {
            zeros.zeros(Elf.DATA, 1, 16384);
        }
        LinkHouse x = linked(zeros);
        Bench.due("65536 bytes in memory", row(x, 0, 40), 65536);
        Elf one = new Elf();
        one.common("c", 1, 1);
        Bench.add(x, one);
        Bench.due("a common byte more", x.link(false), 3);
        Bench.due("with REACHED it is not there", x.link(true), 0);
        x.drop();
        Elf align = new Elf();
        align.zeros(Elf.DATA, 256, 0);
        Bench.add(x, align);
        Bench.due("none more, but ALIGN", x.link(false), 3);
        x.drop();
        Elf empty = new Elf();
        empty.zeros(Elf.DATA, 128, 0);
        Bench.add(x, empty);
        Bench.due("an empty one that lies at the end", x.link(false), 0);
    }

    /** A file of text that is so many bytes long. */
    private static Elf fileOf(int bytes) {
        Elf elf = new Elf();
        elf.global("_start", elf.text(1), 0);
        for (int k = 0; k < 15; k++) {
            elf.section(1, Elf.TEXT, 4096, Bench.bytes(1));
        }
        elf.shared(Elf.TEXT, 1, 2000);
        elf.shared(Elf.TEXT, 1, bytes - 0xf001 - 2000);
        return elf;
    }

    private static void fullFile() {
        Elf full = fileOf(65536);
        LinkHouse x = linked(full);
        Bench.due("65536 bytes", x.look(2), 65536);
        byte[] object = full.build();
        Bench.due("its last byte", x.out(65535), object[64 + 0xfff - 2000 - 1] & 255);
        Bench.due("a byte of it", x.out(0xf000) & 255, 1);
        Bench.due("memory", row(x, 0, 40), 65536 - 128);
        Bench.due("boot", x.boot(false), 0);
        Bench.due("named", x.named(), -1);
        Bench.due("OUT stays", x.look(2), 65536);
        LinkHouse y = Bench.house(fileOf(65537));
        Bench.due("65537 bytes", y.link(false), 3);
        Bench.due("OUT stays", y.look(2), 0);
        Bench.due("look 3", y.look(3), 3);
        Bench.due("objects", y.look(5), 1);
        Bench.due("kept sections", y.look(6), 18);
        Bench.due("names", y.look(8), 1);
        Bench.dueThrow("map", IllegalStateException.class, () -> y.map());
        Bench.dueThrow("place", IllegalStateException.class, () -> y.place(0));
        Bench.dueThrow("address", IllegalStateException.class, () -> y.address());
        Bench.dueThrow("named", IllegalStateException.class, () -> y.named());
    }

    private static void threeGoesBeforeFour() {
        Elf elf = fileOf(65537);
        int text = elf.text(0, 0, 0, 0);
        int far = elf.global("far", Elf.FIXED, -1);
        elf.site(elf.sites(text), 0, 10, far, 0);
        LinkHouse x = Bench.house(elf);
        Bench.due("3 before 4", x.link(false), 3);
        Bench.due("no site ran over", x.look(4), 0);
        Bench.due("4 with REACHED: it is not reached", x.link(true), 0);
    }

    /** One byte is enough for a segment. */
    private static void oneByteOfEach() {
        Elf common = Elf.program();
        common.common("c", 1, 1);
        LinkHouse x = linked(common);
        Bench.due("a common byte", x.look(7), 2);
        Bench.due("memory", row(x, 1, 40), 1);
        Bench.due("file bytes", row(x, 1, 32), 0);
        Elf slot = new Elf();
        int text = slot.text(0, 0, 0, 0);
        slot.global("_start", text, 0);
        slot.site(slot.sites(text), 0, 9, 1, 0);
        x = linked(slot);
        Bench.due("a slot alone", x.look(7), 2);
        Bench.due("file bytes", row(x, 1, 32), 8);
        Bench.due("it holds", x.out((int) row(x, 1, 8)), 0x4000b0);
        Elf pool = Elf.program();
        pool.strings("\0");
        x = linked(pool);
        Bench.due("a pool of one byte", x.look(14), 1);
        Bench.due("a segment", x.look(7), 2);
        Bench.due("memory", row(x, 1, 40), 1);
        for (long flags : new long[] {Elf.ALLOC, Elf.DATA, Elf.THREADS}) {
            Elf elf = Elf.program();
            elf.section(1, flags, 1, new byte[1]);
            Bench.due("a byte of FLAGS " + flags, linked(elf).look(7), 2);
        }
        for (long flags : new long[] {Elf.DATA, Elf.THREADS}) {
            Elf elf = Elf.program();
            elf.zeros(flags, 1, 1);
            Bench.due("a zero of FLAGS " + flags, linked(elf).look(7), 2);
        }
    }

    private static void emptySections() {
        Elf elf = Elf.program();
        for (long flags : new long[] {Elf.TEXT, Elf.ALLOC, Elf.DATA, Elf.THREADS}) {
            elf.section(1, flags, 0, new byte[0]);
        }
        elf.zeros(Elf.DATA, 0, 0);
        elf.zeros(Elf.THREADS, 0, 0);
        elf.common("c", 1, 0);
        LinkHouse x = linked(elf);
        Bench.due("all but the text are left out", x.look(7), 1);
        Bench.due("no threads' row", x.out(56) & 0xffff, 1);
        Bench.due("they are kept", x.look(6), 7);
        Bench.due("the file", x.look(2), 130);
        long[] due = {0x400080, 0x400082, 0x401000, 0x401000, 0x401000, 0x401000, 0x401000};
        for (int i = 0; i < due.length; i++) {
            Bench.due("place " + i, x.place(i), due[i]);
        }
        Bench.due("c", Bench.address(x, "c"), 0x401000);
        Bench.due("TP", x.look(15), 0x401000);
    }

    private static void firstZeros() {
        Elf elf = Elf.program();
        elf.data(1, 2, 3);
        elf.zeros(Elf.DATA, 64, 0);
        elf.zeros(Elf.DATA, 1, 5);
        elf.common("c", 16, 3);
        elf.undefined("__bss_start");
        elf.undefined("_end");
        elf.undefined("_edata");
        LinkHouse x = linked(elf);
        Bench.due("_edata", Bench.address(x, "_edata"), 0x4010c3);
        Bench.due("an empty one is the first", Bench.address(x, "__bss_start"), 0x401100);
        Bench.due("c", Bench.address(x, "c"), 0x401110);
        Bench.due("_end", Bench.address(x, "_end"), 0x401113);
        Bench.due("file bytes end with group 2", row(x, 1, 32), 3);
    }

    private static void templates() {
        Elf plain = Elf.program();
        plain.readOnly(7, 7, 7);
        plain.section(1, Elf.THREADS, 0, Bench.bytes(5));
        plain.zeros(Elf.DATA, 4096, 16);
        plain.section(1, Elf.DATA, 64, Bench.bytes(6));
        LinkHouse x = linked(plain);
        Bench.due("rows", x.out(56) & 0xffff, 4);
        Bench.due("7 and 4", row(x, 3, 0), 4L << 32 | 7);
        Bench.due("ALIGN is 1 at least, and of the threads' alone", row(x, 3, 48), 1);
        Bench.due("its place in the file", row(x, 3, 8), row(x, 2, 8));
        Bench.due("its address", row(x, 3, 16), row(x, 2, 16));
        Bench.due("TP", x.look(15), row(x, 3, 16) + 1);
        Bench.due("its byte", x.out((int) row(x, 3, 8)) & 255, 5);
        Elf large = Elf.program();
        large.section(1, Elf.THREADS, 4, Bench.bytes(1));
        large.zeros(Elf.THREADS, 32, 1);
        large.section(1, Elf.THREADS, 8, Bench.bytes(2));
        x = linked(large);
        Bench.due("the greatest ALIGN", row(x, 2, 48), 32);
        Bench.due("file bytes up to the last of group 4", row(x, 2, 32), 9);
        Bench.due("memory up to the last of all", row(x, 2, 40), 0x21);
        Bench.due("TP", x.look(15), row(x, 2, 16) + 0x40);
    }

    private static void templateAgain() {
        Elf small = new Elf();
        small.section(1, Elf.THREADS, 2, Bench.bytes(1, 2));
        Elf large = new Elf();
        large.section(1, Elf.THREADS, 256, Bench.bytes(3));
        LinkHouse x = linked(Elf.program(), small, large);
        Bench.due("ALIGN", row(x, 2, 48), 256);
        x.drop();
        x.link(false);
        Bench.due("ALIGN without the large one", row(x, 2, 48), 2);
        Bench.due("TP", x.look(15), row(x, 1, 16) + 2);
        x.drop();
        x.link(false);
        Bench.due("no threads' row", x.out(56) & 0xffff, 1);
        Bench.due("TP is the third segment's address", x.look(15), 0x401000);
        Bench.due("the text's place", row(x, 0, 8), 0x80);
    }

    private static void templateAlone() {
        Elf elf = new Elf();
        elf.section(1, Elf.THREADS, 16, Bench.bytes(1, 2, 3));
        elf.global("_start", 1, 1);
        LinkHouse x = linked(elf);
        Bench.due("rows", x.out(56) & 0xffff, 2);
        Bench.due("ALIGN of the first section", row(x, 1, 48), 16);
        Bench.due("its address", row(x, 1, 16), 0x4000b0);
        Bench.due("ENTRY", x.out(24), 0x4000b1);
        Bench.due("TP", x.look(15), 0x4000c0);
        Elf zeros = new Elf();
        zeros.zeros(Elf.THREADS, 64, 3);
        zeros.global("_start", 1, 0);
        x = linked(zeros);
        Bench.due("segments", x.look(7), 1);
        Bench.due("its address", x.place(0), 0x4000c0);
        Bench.due("its place in the file", row(x, 1, 8), 0xc0);
        Bench.due("no file bytes", row(x, 1, 32), 0);
        Bench.due("memory", row(x, 1, 40), 3);
        Bench.due("TP", x.look(15), 0x400100);
        Bench.due("the file reaches up to the file place", x.look(2), 0xb0);
    }

    /** Whatever PLACE says, a section of type 8 brings no bytes into the file. */
    private static void threadZerosHaveNoBytes() {
        Elf elf = new Elf();
        int text = elf.text(0x11, 0x12, 0x13, 0x14, 0x15, 0x16, 0x17, 0x18);
        elf.global("_start", text, 0);
        int zeros = elf.zeros(Elf.THREADS, 1, 8);
        int other = elf.zeros(Elf.DATA, 1, 8);
        elf.data(0x21);
        elf.site(elf.sites(text), 0, 9, 1, 0);
        byte[] object = elf.build();
        object = Elf.withRow(object, zeros, Elf.PLACE, Elf.placeOf(object, text));
        object = Elf.withRow(object, other, Elf.PLACE, Elf.placeOf(object, text));
        LinkHouse x = new LinkHouse();
        Bench.due("add", Bench.add(x, object), 0);
        Bench.due("link", x.link(false), 0);
        Bench.due("a byte of data, 0s up to the slot", x.out((int) row(x, 1, 8)), 0x21);
        Bench.due("the file", x.look(2), row(x, 1, 8) + 16);
        Bench.due("what comes then lies behind group 4's", x.place(2), row(x, 1, 16));
        Bench.due("boot", x.boot(false), 0);
        Bench.due("zeros in memory", x.peek(x.place(3)), 0);
    }

    /** Strings' sections bring the pool into the file and nothing behind it. */
    private static void stringsHaveNoBytes() {
        Elf elf = Elf.program();
        elf.strings("c\0bc\0abc\0");
        elf.data(9);
        LinkHouse x = linked(elf);
        int at = (int) row(x, 1, 8);
        Bench.due("the pool", x.out(at), 0x00636261);
        Bench.due("0s behind it", x.out(at + 8), 0);
        Bench.due("the next segment", x.out(at + 16), 9);
        Bench.due("memory", row(x, 1, 40), 4);
    }

    private static void emptyStrings() {
        Elf elf = Elf.program();
        elf.section(1, Elf.ALLOC, 1, Bench.bytes(7, 0));
        elf.strings("");
        elf.section(1, Elf.ALLOC, 1, Bench.bytes(8));
        elf.strings("ab\0\0b\0");
        LinkHouse x = linked(elf);
        long base = row(x, 1, 16);
        Bench.due("the first", x.place(1), base);
        Bench.due("SIZE 0 is no strings' section", x.place(2), base + 2);
        Bench.due("the next", x.place(3), base + 2);
        Bench.due("the strings", x.place(4), base + 3);
        Bench.due("the pool", x.look(14), 3);
        Elf zeros = Elf.program();
        zeros.global("k", zeros.strings("\0\0\0"), 2);
        zeros.global("end", 2, 3);
        x = linked(zeros);
        Bench.due("an empty string, once", x.look(14), 1);
        Bench.due("its last byte", Bench.address(x, "k"), row(x, 1, 16));
        Bench.due("SIZE", Bench.address(x, "end"), row(x, 1, 16) + 1);
    }

    private static void poolInOrder() {
        Elf elf = Elf.program();
        int first = elf.strings("b\0ab\0xb\0b\0");
        elf.global("b", first, 0);
        elf.global("xb", first, 6);
        elf.global("zero", first, 4);
        elf.global("above", first, 10);
        elf.global("below", first, -1);
        LinkHouse x = linked(elf);
        long base = row(x, 1, 16);
        Bench.due("ab, xb", x.out((int) row(x, 1, 8)), 0x006278006261L);
        Bench.due("an end of the first that has it", Bench.address(x, "b"), base + 1);
        Bench.due("b of xb is its own", Bench.address(x, "xb"), base + 4);
        Bench.due("a 0 of its string", Bench.address(x, "zero"), base + 2);
        Bench.due("from SIZE on", Bench.address(x, "above"), base + 6);
        Bench.due("VALUE is unsigned", Bench.address(x, "below"), base + 6);
    }

    /** What an earlier link had in its segments is gone. */
    private static void segmentsAgain() {
        Elf elf = new Elf();
        elf.weak("_start", elf.text(1, 2), 0);
        elf.readOnly(1);
        elf.data(2);
        LinkHouse x = linked(elf);
        Bench.due("three", x.look(7), 3);
        Bench.give(x, "_start", 5);
        Bench.due("link", x.link(true), 0);
        Bench.due("none", x.look(7), 0);
        Bench.due("64 bytes", x.look(2), 64);
        Bench.due("no sections", x.look(6), 0);
        x.forget();
        Bench.due("link", x.link(true), 0);
        Bench.due("one", x.look(7), 1);
        Bench.due("not done", Bench.wish(x, "w"), 1);
        Bench.due("link", x.link(false), 2);
        Bench.due("segments of one that is not done", x.look(7), 0);
    }

    private static void sectionsAsked() {
        LinkHouse x = linked(Elf.program());
        long[] due = {0, 0, 1, 0, 2};
        for (int what = 0; what < 5; what++) {
            Bench.due("section(0, " + what + ")", x.section(0, what), due[what]);
        }
        Bench.dueThrow("what 5 of none", java.util.NoSuchElementException.class,
                () -> x.section(1, 5));
        x.drop();
        x.link(true);
        Bench.dueThrow("not done comes first", IllegalStateException.class,
                () -> x.section(-1, -1));
        Bench.dueThrow("not done comes first", IllegalStateException.class, () -> x.place(-1));
    }
}
