/** Promise 5 at the limits of sites: numbers that just fit, short sites, slots, strings. */
final class SiteEdgesTest {
    private static final long HIGHEST = Integer.MAX_VALUE;
    private static final long LOWEST = Integer.MIN_VALUE;

    public static void main(String[] args) {
        wideNumbers();
        plainLimits();
        slotLimits();
        threadLimits();
        shortLimits();
        shortBytes();
        shortInLaterFiles();
        shortAtTheBeginning();
        shortAsTheObjectHasThem();
        shortSymbols();
        slotsAgain();
        slotsOfOneName();
        stringsSymbols();
        sitesOfGroups();
        overAgain();
        Bench.end();
    }

    /** 64 bytes of code with _start at its begin, as symbol 1, and a section of sites. */
    private static final class Code {
        final Elf elf = new Elf();
        final int text;
        final int sites;

        Code(int... head) {
            int[] code = new int[64];
            System.arraycopy(head, 0, code, 0, head.length);
            text = elf.text(code);
            sites = elf.sites(text);
            elf.global("_start", text, 0);
        }

        Code site(long place, int how, int symbol, long a) {
            elf.site(sites, place, how, symbol, a);
            return this;
        }

        LinkHouse linked(int answer) {
            LinkHouse x = Bench.house(elf);
            Bench.due("link", x.link(false), answer);
            return x;
        }
    }

    /** Where the code lies in the file of OUT: its segment is the first one. */
    private static int code(LinkHouse x) {
        return (int) x.out(64 + 8);
    }

    private static void wideNumbers() {
        Code c = new Code(1, 2, 3, 4, 5, 6, 7, 8, 9, 10, 11, 12, 13, 14, 15, 16);
        int far = c.elf.global("far", Elf.FIXED, Long.MIN_VALUE);
        c.site(1, 1, far, -1).site(10, 11, 0, -2);
        LinkHouse x = c.linked(0);
        int at = code(x);
        Bench.due("the byte ahead", x.out(at) & 255, 1);
        Bench.due("modulo 2^64", x.out(at + 1), Long.MAX_VALUE);
        Bench.due("the byte behind 8", x.out(at + 9) & 255, 10);
        Bench.due("4 bytes", (int) x.out(at + 10), -2);
        Bench.due("the byte behind 4", x.out(at + 14) & 255, 15);
    }

    private static void dueAnswer(String what, int how, long value, long a, int want) {
        Code c = new Code();
        int far = c.elf.global("far", Elf.FIXED, value);
        c.site(4, how, far, a);
        LinkHouse x = Bench.house(c.elf);
        Bench.due(what + " of how " + how, x.link(false), want);
        long base = how == 9 || how == 22 || how > 23 ? 0x4000b0 : 0x400080;
        Bench.due("the site that ran over", x.look(4), want == 4 ? base + 4 : 0);
        Bench.due("look 3", x.look(3), want);
    }

    private static void plainLimits() {
        long p = 0x400084;
        for (int how : new int[] {2, 4}) {
            dueAnswer("the highest", how, p, HIGHEST, 0);
            dueAnswer("above it", how, p, HIGHEST + 1, 4);
            dueAnswer("the lowest", how, p, LOWEST, 0);
            dueAnswer("below it", how, p, LOWEST - 1, 4);
            dueAnswer("wrapped around", how, Long.MIN_VALUE + p, Long.MIN_VALUE, 0);
        }
        dueAnswer("the highest", 11, 0, HIGHEST, 0);
        dueAnswer("above it", 11, 1, HIGHEST, 4);
        dueAnswer("the lowest", 11, 0, LOWEST, 0);
        dueAnswer("below it", 11, -1, LOWEST, 4);
        dueAnswer("wrapped around", 11, -5, 6, 0);
        dueAnswer("0", 10, 5, -5, 0);
        dueAnswer("below 0", 10, 5, -6, 4);
        dueAnswer("2^31", 10, HIGHEST, 1, 0);
        dueAnswer("the highest", 10, 0xffffffffL, 0, 0);
        dueAnswer("above it", 10, 0xffffffffL, 1, 4);
        dueAnswer("wrapped around", 10, -1, 0x100000000L, 0);
    }

    private static void slotLimits() {
        // from the site to its slot
        long way = 0x4010f0 - 0x4000b4;
        for (int how : new int[] {9, 22, 41, 42}) {
            dueAnswer("the highest", how, 0, HIGHEST - way, 0);
            dueAnswer("above it", how, 0, HIGHEST - way + 1, 4);
            dueAnswer("the lowest", how, 0, LOWEST - way, 0);
            dueAnswer("below it", how, 0, LOWEST - way - 1, 4);
        }
    }

    private static void threadLimits() {
        long tp = 0x401000;
        dueAnswer("the highest", 23, tp, HIGHEST, 0);
        dueAnswer("above it", 23, tp, HIGHEST + 1, 4);
        dueAnswer("the lowest", 23, tp, LOWEST, 0);
        dueAnswer("below it", 23, tp, LOWEST - 1, 4);
        dueAnswer("all 8 bytes", 18, Long.MIN_VALUE, -1, 0);
    }

    private static void dueShort(String what, int x, int y, long way, int want) {
        Code c = new Code(0, 0, x, y);
        int to = c.elf.local(0, c.text, way + 4 + 4);
        c.site(4, 41, to, -4);
        LinkHouse house = Bench.house(c.elf);
        Bench.due(what, house.link(false), want);
        Bench.due("no slot", house.look(12), 0);
        Bench.due("the site's address", house.look(4), want == 4 ? 0x400084 : 0);
    }

    /** S + A - P may be such a way; of a jump it is one more. */
    private static void shortLimits() {
        int[][] heads = {{0x8b, 0x05}, {0xff, 0x15}, {0xff, 0x25}};
        for (int[] head : heads) {
            int more = head[1] == 0x25 ? 1 : 0;
            dueShort("the highest", head[0], head[1], HIGHEST - more, 0);
            dueShort("above it", head[0], head[1], HIGHEST - more + 1, 4);
            dueShort("the lowest", head[0], head[1], LOWEST - more, 0);
            dueShort("below it", head[0], head[1], LOWEST - more - 1, 4);
        }
    }

    private static void shortBytes() {
        Code c = new Code(0x48, 0x8b, 0x0d, 9, 9, 9, 9, 7, 0xff, 0x15, 9, 9, 9, 9, 7, 0xff, 0x25, 9,
                9, 9, 9, 7, 0x4c, 0x8b, 0x35, 9, 9, 9, 9, 7);
        c.elf.data(1);
        int back = c.elf.local(0, c.text, -0x01020304);
        c.site(3, 42, 1, -4).site(10, 41, 1, -4).site(17, 41, 1, -4).site(25, 41, back, -4);
        LinkHouse x = c.linked(0);
        int at = code(x);
        Bench.due("a load", x.out(at), 0x07fffffff90d8d48L);
        Bench.due("a call", x.out(at + 7), 0xfffffff2e86707L | 0x0700000000000000L);
        Bench.due("a jump", x.out(at + 14), 0x0790ffffffece907L);
        Bench.due("a load", x.out(at + 22), 0x07fefdfcdf358d4cL);
        Bench.due("no slot", x.look(12), 0);
    }

    /** A house whose second file, third and fourth member have the code. */
    private static void shortInLaterFiles() {
        Code c = new Code(0x48, 0x8b, 0x0d, 0, 0, 0, 0, 0xff, 0x25);
        c.elf.data(1);
        c.site(3, 42, 1, -4).site(9, 41, 1, -4);
        LinkHouse x = new LinkHouse();
        Elf first = new Elf();
        first.data(1, 2, 3, 4, 5);
        Bench.add(x, first);
        Bench.add(x, Bench.archive(Bench.member("/", new byte[7]), Bench.member("a/", first
                .build()), Bench.member("c/", c.elf.build())));
        Bench.wish(x, "_start");
        Bench.due("link", x.link(false), 0);
        Bench.due("no slot", x.look(12), 0);
        int at = code(x);
        Bench.due("a load", x.out(at) & 0xffffffffffffffL, 0xfffffff90d8d48L);
        Bench.due("a jump", x.out(at + 7) & 0xffffffffffffL, 0x90fffffff4e9L);
    }

    /** PLACE has to be 2 at least, whatever lies ahead of the section in the object. */
    private static void shortAtTheBeginning() {
        for (int place = 0; place < 4; place++) {
            Elf elf = new Elf();
            elf.data(0x8b, 0x05, 0x8b);
            int[] code = new int[16];
            int[] head = {0x05, 0x8b, 0x05};
            System.arraycopy(head, 0, code, 0, 3);
            int text = elf.text(code);
            elf.global("_start", text, 0);
            elf.site(elf.sites(text), place, 41, 1, -4);
            LinkHouse x = Bench.house(elf);
            Bench.due("link", x.link(false), 0);
            Bench.due("slots at PLACE " + place, x.look(12), place == 3 ? 0 : 1);
        }
        Elf elf = new Elf();
        int text = elf.text(0x8b, 0x05, 0, 0, 0, 0);
        elf.global("_start", text, 0);
        elf.site(elf.sites(text), 2, 42, 1, -4);
        LinkHouse x = Bench.house(elf);
        Bench.due("link", x.link(false), 0);
        Bench.due("PLACE 2 is enough", x.look(12), 0);
        Bench.due("the first byte", x.out(code(x)) & 255, 0x8d);
    }

    /** The two bytes ahead are looked at as the object has them; sites are done in order. */
    private static void shortAsTheObjectHasThem() {
        for (int k = 0; k < 2; k++) {
            Code c = new Code(0x11, 0x12, 0x8b, 0x05, 0, 0, 0, 0);
            int fixed = c.elf.global("fixed", Elf.FIXED, 0x04030201);
            if (k == 0) {
                c.site(0, 10, fixed, 0).site(4, 42, 1, -4);
            } else {
                c.site(4, 42, 1, -4).site(0, 10, fixed, 0);
            }
            LinkHouse x = c.linked(0);
            Bench.due("no slot", x.look(12), 0);
            long due = k == 0 ? 0x048d0201 : 0x04030201;
            Bench.due("the later one stays", x.out(code(x)) & 0xffffffffL, due);
            Bench.due("the way", (int) x.out(code(x) + 4), -8);
        }
        Code jump = new Code(0x11, 0x12, 0xff, 0x25, 0, 0, 0, 0);
        int fixed = jump.elf.global("fixed", Elf.FIXED, 0x04030201);
        jump.site(4, 41, 1, -4).site(0, 10, fixed, 0);
        LinkHouse x = jump.linked(0);
        Bench.due("over the jump's first bytes", x.out(code(x)), 0x90fffffff9L << 24
                & 0xffffffff00000000L | 0x04030201);
    }

    /** Which symbols' sites may be short. */
    private static void shortSymbols() {
        Code c = new Code(0x8b, 0x05, 0, 0, 0, 0, 0x8b, 0x05);
        int weak = c.elf.weak("w", 0, 0);
        c.elf.global("w", c.text, 0);
        int common = c.elf.common("f", 4, 4);
        c.elf.global("f", Elf.FIXED, 5);
        c.site(2, 42, weak, -4).site(8, 42, common, -4);
        LinkHouse x = c.linked(0);
        Bench.due("by the name's definition", x.look(12), 1);
        Code zero = new Code(0x8b, 0x05);
        zero.site(2, 42, 0, -4);
        byte[] object = zero.elf.build();
        int at = Elf.placeOf(object, zero.elf.symbolsSection());
        Bench.set(object, at + 6, 2, zero.text);
        LinkHouse y = new LinkHouse();
        Bench.due("add", Bench.add(y, object), 0);
        Bench.due("link", y.link(false), 0);
        Bench.due("symbol 0 is in no section", y.look(12), 1);
        Bench.due("its slot holds 0", y.out((int) y.out(64 + 56 + 8)), 0);
        Elf first = new Elf();
        int text = first.text(0x8b, 0x05, 0, 0, 0, 0, 0x8b, 0x05, 0, 0, 0, 0);
        int local = first.local(0, text, 3);
        int unkept = first.local(0, first.section(1, 0, 1, new byte[4]), 3);
        first.global("_start", text, 0);
        int sites = first.sites(text);
        first.site(sites, 2, 41, local, -4).site(sites, 8, 41, unkept, -4);
        LinkHouse z = Bench.house(first);
        Bench.due("link", z.link(false), 0);
        Bench.due("a local one of a section not kept has a slot", z.look(12), 1);
        Bench.due("its VALUE", z.out((int) z.out(64 + 56 + 8)), 3);
        Bench.due("the other is short", (int) z.out(code(z) + 2), 3 - 4 - 2);
    }

    /** The slots of an earlier link are gone, those of locals of all objects, too. */
    private static void slotsAgain() {
        Elf elf = new Elf();
        int idle = elf.text(new int[8]);
        int text = elf.text(new int[8]);
        for (int k = 1; k < 62; k++) {
            elf.local(0, Elf.FIXED, k);
        }
        int start = elf.global("_start", text, 0);
        int idleSites = elf.sites(idle);
        int sites = elf.sites(text);
        elf.site(idleSites, 0, 9, 60, 0).site(idleSites, 4, 9, start, 0);
        elf.site(sites, 0, 9, 61, 0).site(sites, 4, 9, start, 0);
        LinkHouse x = Bench.house(elf);
        for (int k = 0; k < 4; k++) {
            boolean reached = k % 2 == 1;
            Bench.due("link", x.link(reached), 0);
            Bench.due("slots", x.look(12), reached ? 2 : 3);
            int at = (int) x.out(64 + 56 + 8);
            Bench.due("the first one", x.out(at), reached ? 61 : 60);
            long way = (int) x.out(code(x) + (reached ? 0 : 8));
            long slot = x.out(64 + 56 + 16) + (reached ? 0 : 16);
            Bench.due("the site's", way, slot - x.place(reached ? 0 : 1));
        }
    }

    private static void slotsOfOneName() {
        Elf first = new Elf();
        int text = first.text(new int[12]);
        first.global("_start", text, 0);
        int far = first.undefined("far");
        int sites = first.sites(text);
        first.site(sites, 0, 9, far, 0).site(sites, 4, 22, far, 0);
        Elf second = new Elf();
        int data = second.data(new int[9]);
        int name = second.global("far", data, 3);
        int other = second.sites(data);
        second.site(other, 0, 41, name, 0).site(other, 4, 22, name, 0);
        second.readOnly(1);
        LinkHouse x = Bench.house(first, second);
        Bench.due("link", x.link(false), 0);
        Bench.due("a name has one of each", x.look(12), 2);
        int at = (int) x.out(64 + 112 + 8);
        Bench.due("from a multiple of 8 on", x.out(at + 16), x.place(2) + 3);
        Bench.due("less TP", x.out(at + 24), x.place(2) + 3 - x.look(15));
        Bench.due("the file ends with them", x.look(2), at + 32);
    }

    /** Symbol 1 of KIND 3, and such symbols elsewhere than in strings. */
    private static void stringsSymbols() {
        Elf elf = new Elf();
        int text = elf.text(new int[40]);
        int strings = elf.strings("xyz\0yz\0");
        int first = elf.local(3, strings, 0);
        int fixed = elf.local(3, Elf.FIXED, 100);
        int plain = elf.local(3, text, 2);
        int unkept = elf.local(3, elf.section(1, 0, 1, new byte[3]), 4);
        int global = elf.symbol("_start", Elf.GLOBAL, 3, strings, 0, 0);
        int sites = elf.sites(text);
        elf.site(sites, 0, 1, first, 4).site(sites, 8, 1, fixed, 4).site(sites, 16, 1, plain, 4)
                .site(sites, 24, 1, unkept, 4).site(sites, 32, 1, global, 4);
        LinkHouse x = Bench.house(elf);
        Bench.due("link", x.link(false), 0);
        int at = code(x);
        long pool = x.place(1);
        Bench.due("yz in xyz", x.out(at), pool + 1);
        Bench.due("a fixed one", x.out(at + 8), 104);
        Bench.due("of another section", x.out(at + 16), x.place(0) + 6);
        Bench.due("of a section that is not kept", x.out(at + 24), 8);
        Bench.due("a global one: S + A", x.out(at + 32), pool + 4);
        Elf wrap = new Elf();
        text = wrap.text(new int[24]);
        wrap.global("_start", text, 0);
        int high = wrap.local(3, wrap.strings("ab\0"), -1);
        sites = wrap.sites(text);
        wrap.site(sites, 0, 1, high, 2).site(sites, 8, 1, high, 1).site(sites, 16, 1, high, 0);
        x = Bench.house(wrap);
        Bench.due("link", x.link(false), 0);
        pool = x.place(1);
        Bench.due("VALUE + A wraps around to 1", x.out(code(x)), pool + 1);
        Bench.due("to 0", x.out(code(x) + 8), pool);
        Bench.due("below 0 it is beyond SIZE", x.out(code(x) + 16), pool + 3);
    }

    /** Each group's bytes have their place in the file. */
    private static void sitesOfGroups() {
        Elf elf = new Elf();
        int[] targets = {elf.text(new int[4]), elf.readOnly(0, 0, 0, 0, 9), elf.data(new int[4]),
            elf.section(1, Elf.THREADS, 4, new byte[4])};
        elf.global("_start", targets[0], 0);
        for (int k = 0; k < targets.length; k++) {
            elf.site(elf.sites(targets[k]), 0, 10, 0, 0x01010101L * (k + 1));
        }
        LinkHouse x = Bench.house(elf);
        Bench.due("link", x.link(false), 0);
        Bench.due("text", (int) x.out((int) x.out(64 + 8)), 0x01010101);
        Bench.due("constants", x.out((int) x.out(120 + 8)) & 0xffffffffffL, 0x0902020202L);
        Bench.due("threads', then data", x.out((int) x.out(176 + 8)), 0x0303030304040404L);
    }

    private static void overAgain() {
        Code c = new Code();
        int far = c.elf.global("far", Elf.FIXED, 1L << 32);
        c.site(8, 0, far, 0).site(12, 10, far, 0).site(0, 10, far, 0);
        LinkHouse x = c.linked(4);
        Bench.due("the first by sites, not by address", x.look(4), 0x40008c);
        Bench.due("OUT stays", x.look(2), 0);
        Bench.due("objects", x.look(5), 1);
        Bench.due("kept", x.look(6), 1);
        Bench.due("segments", x.look(7), 0);
        Bench.due("TP", x.look(15), 0);
        Bench.due("merge", x.merge(), 4);
        Bench.due("the site's address stays", x.look(4), 0x40008c);
        x.drop();
        Bench.due("link", x.link(false), 2);
        Bench.due("none", x.look(4), 0);
    }
}
