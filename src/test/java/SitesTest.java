/** Promise 5: what sites become, slots, short sites, strings, and sites that run over. */
final class SitesTest {
    /** Where the code of program() lies: two segments, no threads' row. */
    private static final long TEXT = 0x4000b0;
    private static final int CODE = 0xb0;
    private static final long DATA = 0x4010f0;

    public static void main(String[] args) {
        plain();
        threads();
        slots();
        slotsOfLocals();
        shortLoads();
        shortCalls();
        notShort();
        strings();
        limits();
        firstRunOver();
        symbolZero();
        linkedAgain();
        Bench.end();
    }

    /** 64 bytes of code with _start, and one section of sites for it. */
    private static final class Code {
        final Elf elf = new Elf();
        final int text;
        final int sites;

        Code(int... head) {
            int[] code = new int[64];
            System.arraycopy(head, 0, code, 0, head.length);
            text = elf.text(code);
            sites = elf.sites(text);
            elf.global("_start", text, 0);
        }

        LinkHouse linked() {
            LinkHouse x = Bench.house(elf);
            Bench.due("link", x.link(false), 0);
            return x;
        }
    }

    private static long four(LinkHouse x, int at) {
        return (int) x.out(CODE + at);
    }

    private static void plain() {
        Code c = new Code();
        int data = c.elf.data(1, 2, 3, 4);
        int there = c.elf.global("there", data, 2);
        int local = c.elf.local(0, data, 1);
        c.elf.site(c.sites, 0, 1, there, 5).site(c.sites, 8, 2, there, -4)
                .site(c.sites, 12, 4, local, -4).site(c.sites, 16, 10, local, 1)
                .site(c.sites, 20, 11, there, -8).site(c.sites, 24, 0, there, 7);
        LinkHouse x = c.linked();
        Bench.due("the data", x.place(1), DATA);
        Bench.due("how 1", x.out(CODE), DATA + 2 + 5);
        Bench.due("how 2", four(x, 8), DATA + 2 - 4 - (TEXT + 8));
        Bench.due("how 4", four(x, 12), DATA + 1 - 4 - (TEXT + 12));
        Bench.due("how 10", four(x, 16), DATA + 1 + 1);
        Bench.due("how 11", four(x, 20), DATA + 2 - 8);
        Bench.due("how 0", x.out(CODE + 24), 0);
        Bench.due("no slots", x.look(12), 0);
    }

    private static void threads() {
        Code c = new Code();
        int vars = c.elf.section(1, Elf.THREADS, 8, new byte[16]);
        int var = c.elf.global("var", vars, 4);
        c.elf.site(c.sites, 0, 18, var, 1).site(c.sites, 8, 23, var, 2)
                .site(c.sites, 12, 22, var, -4).site(c.sites, 16, 22, var, 0);
        LinkHouse x = c.linked();
        int code = (int) x.out(64 + 8);
        long tp = x.look(15);
        Bench.due("TP", tp, x.place(1) + 16);
        Bench.due("how 18", x.out(code), -12 + 1);
        Bench.due("how 23", (int) x.out(code + 8), -12 + 2);
        long slot = x.place(1) + 16;
        Bench.due("how 22", (int) x.out(code + 12), slot - 4 - (x.place(0) + 12));
        Bench.due("the same slot", (int) x.out(code + 16), slot - (x.place(0) + 16));
        Bench.due("slots", x.look(12), 1);
        int at = (int) x.out(64 + 56 + 8) + 16;
        Bench.due("the slot", x.out(at), -12);
    }

    private static void slots() {
        Code c = new Code();
        int data = c.elf.data(1, 2, 3);
        int there = c.elf.global("there", data, 2);
        int fixed = c.elf.global("fixed", Elf.FIXED, 0x1234567890L);
        int none = c.elf.weak("none", 0, 0);
        c.elf.site(c.sites, 0, 9, there, -4).site(c.sites, 4, 41, fixed, -4)
                .site(c.sites, 8, 42, none, -4).site(c.sites, 12, 22, there, 0)
                .site(c.sites, 16, 9, fixed, 8);
        LinkHouse x = c.linked();
        Bench.due("slots", x.look(12), 4);
        long first = x.place(1) + 8;
        Bench.due("from a multiple of 8 on", first % 8, 0);
        Bench.due("there's", four(x, 0), first - 4 - TEXT);
        Bench.due("fixed's", four(x, 4), first + 8 - 4 - (TEXT + 4));
        Bench.due("none's", four(x, 8), first + 16 - 4 - (TEXT + 8));
        Bench.due("there's other one", four(x, 12), first + 24 - (TEXT + 12));
        Bench.due("fixed's again", four(x, 16), first + 8 + 8 - (TEXT + 16));
        int at = (int) x.out(64 + 56 + 8) + 8;
        Bench.due("there", x.out(at), x.place(1) + 2);
        Bench.due("fixed", x.out(at + 8), 0x1234567890L);
        Bench.due("none", x.out(at + 16), 0);
        Bench.due("there less TP", x.out(at + 24), x.place(1) + 2 - x.look(15));
        Bench.due("they are bytes of the file", x.look(2), at + 32);
    }

    private static void slotsOfLocals() {
        Code c = new Code();
        int local = c.elf.local(0, c.text, 5);
        c.elf.site(c.sites, 0, 9, local, 0).site(c.sites, 4, 9, 0, 0).site(c.sites, 8, 9, local, 0);
        Elf other = new Elf();
        int text = other.text(0, 0, 0, 0, 0, 0, 0, 0);
        int sites = other.sites(text);
        other.local(0, Elf.FIXED, 77);
        other.site(sites, 0, 9, 1, 0).site(sites, 4, 9, 0, 0);
        LinkHouse x = Bench.house(c.elf, other);
        Bench.due("link", x.link(false), 0);
        Bench.due("each object's own, 0 too", x.look(12), 4);
        int at = (int) x.out(64 + 56 + 8);
        Bench.due("local", x.out(at), TEXT + 5);
        Bench.due("symbol 0", x.out(at + 8), 0);
        Bench.due("the other's", x.out(at + 16), 77);
        Bench.due("its symbol 0", x.out(at + 24), 0);
    }

    private static void shortLoads() {
        Code c = new Code(0x48, 0x8b, 0x05, 0, 0, 0, 0, 0x8b, 0x3d, 0, 0, 0, 0, 0x8b, 0x0d);
        int data = c.elf.data(1);
        int there = c.elf.global("there", data, 0);
        int common = c.elf.common("c", 4, 4);
        int local = c.elf.local(0, data, 1);
        c.elf.site(c.sites, 3, 42, there, -4).site(c.sites, 9, 41, common, -4)
                .site(c.sites, 15, 41, local, -4);
        LinkHouse x = c.linked();
        Bench.due("no slots", x.look(12), 0);
        Bench.due("x and y", x.out(CODE) & 0xffffff, 0x058d48);
        Bench.due("to there", four(x, 3), DATA - 4 - (TEXT + 3));
        Bench.due("x and y", x.out(CODE + 7) & 0xffff, 0x3d8d);
        Bench.due("to the common one", four(x, 9), DATA + 4 - 4 - (TEXT + 9));
        Bench.due("to the local one", four(x, 15), DATA + 1 - 4 - (TEXT + 15));
    }

    private static void shortCalls() {
        Code c = new Code(0xff, 0x15, 0, 0, 0, 0, 0xff, 0x25, 0, 0, 0, 0);
        c.elf.data(1);
        int start = 1;
        c.elf.site(c.sites, 2, 41, start, -4).site(c.sites, 8, 41, start, -4);
        LinkHouse x = c.linked();
        Bench.due("call", x.out(CODE) & 0xffff, 0xe867);
        Bench.due("its way", four(x, 2), -4 - 2);
        Bench.due("jump", x.out(CODE + 6) & 0xff, 0xe9);
        Bench.due("its way, a byte ahead", four(x, 7), -4 - 8 + 1);
        Bench.due("the last byte", x.out(CODE + 11) & 0xff, 0x90);
    }

    /** How many slots a site at place 4 needs, with these two bytes ahead of it. */
    private static long slotsFor(int how, int x, int y, long a, int which) {
        Code c = new Code(0, 0, x, y);
        int[] symbols = {c.elf.global("there", c.text, 0), c.elf.global("f", Elf.FIXED, 9),
            c.elf.weak("none", 0, 0), c.elf.local(0, Elf.FIXED, 5), c.elf.local(0, c.text, 5),
            c.elf.undefined("_end"), c.elf.local(0, 0, 0), 0};
        c.elf.site(c.sites, 4, how, symbols[which], a);
        return c.linked().look(12);
    }

    private static void notShort() {
        Bench.due("8b 05", slotsFor(41, 0x8b, 5, -4, 0), 0);
        Bench.due("8b 05, how 42", slotsFor(42, 0x8b, 5, -4, 0), 0);
        Bench.due("how 9", slotsFor(9, 0x8b, 5, -4, 0), 1);
        Bench.due("A is not -4", slotsFor(41, 0x8b, 5, -5, 0), 1);
        for (int y : new int[] {0x0d, 0x15, 0x3d, 0x25}) {
            Bench.due("8b " + y, slotsFor(42, 0x8b, y, -4, 0), 0);
        }
        for (int y : new int[] {0x04, 0x07, 0x01, 0x45, 0x85, 0xc5}) {
            Bench.due("8b " + y, slotsFor(42, 0x8b, y, -4, 0), 1);
        }
        Bench.due("ff 15", slotsFor(41, 0xff, 0x15, -4, 0), 0);
        Bench.due("ff 25", slotsFor(41, 0xff, 0x25, -4, 0), 0);
        Bench.due("ff 15, how 42", slotsFor(42, 0xff, 0x15, -4, 0), 1);
        Bench.due("ff 35", slotsFor(41, 0xff, 0x35, -4, 0), 1);
        Bench.due("89 05", slotsFor(41, 0x89, 5, -4, 0), 1);
        for (int which = 1; which < 8; which++) {
            Bench.due("symbol " + which, slotsFor(41, 0x8b, 5, -4, which), which == 4 ? 0 : 1);
        }
        Code c = new Code(5);
        c.elf.site(c.sites, 1, 41, 1, -4);
        Bench.due("PLACE 1", c.linked().look(12), 1);
    }

    private static void strings() {
        Code c = new Code();
        int one = c.elf.strings("hello\0lo\0");
        int section = c.elf.local(3, one, 0);
        int middle = c.elf.local(3, one, 2);
        int plain = c.elf.local(0, one, 6);
        c.elf.site(c.sites, 0, 1, section, 6).site(c.sites, 8, 10, section, 7)
                .site(c.sites, 12, 11, middle, 5).site(c.sites, 16, 2, section, 6)
                .site(c.sites, 20, 1, section, -1).site(c.sites, 28, 1, plain, 3)
                .site(c.sites, 36, 1, section, 9);
        LinkHouse x = c.linked();
        long pool = x.place(1);
        Bench.due("the pool", x.look(14), 6);
        Bench.due("how 1: lo in hello", x.out(CODE), pool + 3);
        Bench.due("how 10", four(x, 8), pool + 4);
        Bench.due("how 11: VALUE and A", four(x, 12), pool + 4);
        Bench.due("how 2: a way from the first", four(x, 16), pool + 6 - (TEXT + 16));
        Bench.due("below 0 is beyond", x.out(CODE + 20), pool + 6);
        Bench.due("no section's symbol", x.out(CODE + 28), pool + 3 + 3);
        Bench.due("SIZE is beyond", x.out(CODE + 36), pool + 6);
    }

    private static int answer(int how, long value, long a) {
        Code c = new Code();
        int far = c.elf.global("far", Elf.FIXED, value);
        c.elf.site(c.sites, 4, how, far, a);
        c.elf.data(1);
        LinkHouse x = Bench.house(c.elf);
        int answer = x.link(false);
        Bench.due("look 4", x.look(4), answer == 4 ? TEXT + 4 : 0);
        Bench.due("OUT", x.look(2) == 0, answer == 4);
        Bench.due("segments", x.look(7), answer == 4 ? 0 : 2);
        return answer;
    }

    private static void limits() {
        long p = TEXT + 4;
        Bench.due("10 at 2^32 - 1", answer(10, 0xffffffffL, 0), 0);
        Bench.due("10 at 2^32", answer(10, 0xffffffffL, 1), 4);
        Bench.due("10 below 0", answer(10, 0, -1), 4);
        Bench.due("11 at 2^31 - 1", answer(11, 0x7fffffffL, 0), 0);
        Bench.due("11 at 2^31", answer(11, 0x80000000L, 0), 4);
        Bench.due("11 at -2^31", answer(11, 0, Integer.MIN_VALUE), 0);
        Bench.due("11 below", answer(11, -1, Integer.MIN_VALUE), 4);
        for (int how : new int[] {2, 4}) {
            Bench.due("at 2^31 - 1", answer(how, 0x7fffffffL + p, 0), 0);
            Bench.due("at 2^31", answer(how, 0x7fffffffL + p, 1), 4);
            Bench.due("at -2^31", answer(how, p, Integer.MIN_VALUE), 0);
            Bench.due("below", answer(how, p - 1, Integer.MIN_VALUE), 4);
        }
        Bench.due("1 takes all", answer(1, Long.MIN_VALUE, -1), 0);
        Bench.due("18 takes all", answer(18, Long.MIN_VALUE, -1), 0);
        Bench.due("23 by TP", answer(23, 1L << 40, 0), 4);
        Bench.due("9 by its slot alone", answer(9, 1L << 40, 0), 0);
        Bench.due("9 with a great A", answer(9, 0, 1L << 40), 4);
        Bench.due("22 with a great A", answer(22, 0, 1L << 40), 4);
        Bench.due("41 with a great A", answer(41, 0, -1L << 40), 4);
        Bench.due("42 with a great A", answer(42, 0, 1L << 31), 4);
        Bench.due("0 never", answer(0, 1L << 40, 1L << 40), 0);
    }

    private static void firstRunOver() {
        Elf elf = new Elf();
        int text = elf.text(new int[16]);
        int data = elf.data(new int[8]);
        int dataSites = elf.sites(data);
        int textSites = elf.sites(text);
        elf.global("_start", text, 0);
        int far = elf.global("far", Elf.FIXED, 1L << 40);
        elf.site(textSites, 0, 10, far, 0);
        elf.site(dataSites, 4, 1, 0, 0);
        Elf second = new Elf();
        LinkHouse x = new LinkHouse();
        Bench.due("7 of a site that lies beyond", Bench.add(x, elf), 7);
        Elf good = new Elf();
        text = good.text(new int[16]);
        data = good.data(new int[8]);
        dataSites = good.sites(data);
        textSites = good.sites(text);
        good.global("_start", text, 0);
        far = good.global("far", Elf.FIXED, 1L << 40);
        good.site(textSites, 0, 10, far, 0);
        good.site(dataSites, 0, 11, 0, 0).site(dataSites, 4, 11, far, 0);
        Bench.due("add", Bench.add(x, good), 0);
        second.text(1);
        Bench.due("add", Bench.add(x, second), 0);
        Bench.due("link", x.link(false), 4);
        Bench.due("by sections of sites, then sites", x.look(4), 0x4010d4);
        Bench.dueThrow("map", IllegalStateException.class, () -> x.map());
        Bench.dueThrow("named", IllegalStateException.class, () -> x.named());
        x.drop();
        x.drop();
        Bench.add(x, Elf.program());
        Bench.due("link", x.link(false), 0);
        Bench.due("nothing ran over", x.look(4), 0);
    }

    /** A link begins anew: slots, pool and TP of the one before are gone. */
    private static void linkedAgain() {
        Code c = new Code();
        c.elf.strings("pool\0");
        int local = c.elf.local(0, c.text, 5);
        c.elf.site(c.sites, 0, 9, local, 0).site(c.sites, 4, 22, 1, 0);
        LinkHouse x = c.linked();
        byte[] first = Bench.out(x);
        Bench.due("link again", x.link(false), 0);
        Bench.due("slots", x.look(12), 2);
        Bench.due("the pool", x.look(14), 5);
        Bench.due("the same file", Bench.out(x), first);
        Bench.wish(x, "w");
        Bench.due("link", x.link(false), 2);
        Bench.due("no slots", x.look(12), 0);
        Bench.due("no pool", x.look(14), 0);
        Bench.due("no TP", x.look(15), 0);
        Bench.due("no segments", x.look(7), 0);
        x.forget();
        Bench.add(x, Elf.program());
        Bench.due("a double", x.link(false), 1);
        Bench.due("no slots", x.look(12), 0);
        Bench.due("no pool", x.look(14), 0);
    }

    private static void symbolZero() {
        Code c = new Code();
        c.elf.site(c.sites, 0, 1, 0, 5);
        byte[] object = c.elf.build();
        int at = (int) Bench.num(object, Elf.rowOf(object, c.elf.symbolsSection()) + 24, 8);
        Bench.set(object, at, 8, -1);
        Bench.set(object, at + 6, 2, c.text);
        Bench.set(object, at + 8, 8, 99);
        LinkHouse x = new LinkHouse();
        Bench.due("add", Bench.add(x, object), 0);
        Bench.due("link", x.link(false), 0);
        Bench.due("symbol 0 has address 0", x.out(0x80), 5);
    }
}
