/** Clauses that are easily read otherwise: each of these runs would answer otherwise then. */
final class ClauseTest {
    public static void main(String[] args) {
        theNextMemberComesFirst();
        wishedNamesReachNothing();
        keptSectionsOfLinksThatFail();
        localsOfDroppedGroups();
        sitesInDroppedGroups();
        weakDefinitionsAreShort();
        stringsOfOtherGroups();
        kindsOfLocals();
        slotsBeforeEdata();
        emptySectionsAlignTemplate();
        largeTemplate();
        mergedInOrderOfDefinitions();
        namedWithoutCommon();
        mapOfMembers();
        Bench.end();
    }

    /** An object with a byte of data that defines the first name and misses the others. */
    private static byte[] chained(String name, String... missed) {
        Elf elf = new Elf();
        elf.global(name, elf.data(1), 0);
        for (String other : missed) {
            elf.undefined(other);
        }
        return elf.build();
    }

    /** Behind a member that is taken comes the next one, not the first one again. */
    private static void theNextMemberComesFirst() {
        LinkHouse x = new LinkHouse();
        Bench.give(x, "_start", 1);
        Bench.wish(x, "middle");
        Bench.add(x, Bench.archive(Bench.member("f/", chained("first")),
                Bench.member("m/", chained("middle", "first", "last")),
                Bench.member("l/", chained("last"))));
        Bench.due("link", x.link(false), 0);
        int[] due = {1, 2, 0};
        for (int i = 0; i < due.length; i++) {
            Bench.due("the " + i + "-th that was taken", x.section(i, 1), due[i]);
        }
    }

    private static void wishedNamesReachNothing() {
        Elf elf = Elf.program();
        elf.global("w", elf.data(1), 0);
        LinkHouse x = Bench.house(elf);
        Bench.wish(x, "w");
        Bench.due("link", x.link(true), 0);
        Bench.due("sections that stay", x.look(6), 1);
        Bench.due("w", Bench.address(x, "w"), 0);
        Bench.due("segments", x.look(7), 1);
    }

    private static void keptSectionsOfLinksThatFail() {
        Elf elf = Elf.program();
        elf.data(1);
        elf.zeros(Elf.DATA, 1, 16384);
        LinkHouse x = Bench.house(elf);
        Bench.due("link", x.link(true), 0);
        Bench.due("those that stay", x.look(6), 1);
        Bench.wish(x, "none");
        Bench.due("a wanted name is left", x.link(true), 2);
        Bench.due("as without REACHED", x.look(6), 3);
        x.forget();
        Bench.add(x, Elf.program());
        Bench.due("a double", x.link(true), 1);
        Bench.due("as without REACHED, with the last object's", x.look(6), 4);
        Elf far = new Elf();
        int text = far.text(new int[4]);
        far.data(1);
        far.site(far.sites(text), 0, 10, far.global("_start", text, 0), -1L << 40);
        LinkHouse y = Bench.house(far);
        Bench.due("a site runs over", y.link(true), 4);
        Bench.due("those that stay", y.look(6), 1);
        Bench.due("a site runs over", y.link(false), 4);
        Bench.due("all", y.look(6), 2);
    }

    /** Whether or not a section was kept before: in a dropped group its symbols have address 0. */
    private static void localsOfDroppedGroups() {
        Elf elf = Elf.program();
        int note = elf.section(1, 0, 1, new byte[3]);
        int other = elf.section(1, 0, 1, new byte[3]);
        int data = elf.data(new int[16]);
        int gone = elf.local(0, note, 7);
        int there = elf.local(0, other, 7);
        int sign = elf.weak("sign", Elf.FIXED, 0);
        int sites = elf.sites(data);
        elf.site(sites, 0, 1, gone, 1).site(sites, 8, 1, there, 1);
        elf.group(sign, 1);
        elf.group(sign, 1, note);
        LinkHouse x = Bench.house(elf);
        Bench.due("link", x.link(false), 0);
        int at = (int) x.out(64 + 56 + 8);
        Bench.due("of a dropped section", x.out(at), 1);
        Bench.due("of one that is not kept", x.out(at + 8), 8);
        Bench.due("merge", x.merge(), 0);
        byte[] o = Bench.out(x);
        int symbols = Elf.placeOf(o, (int) Bench.num(o, 60, 2) - 2);
        Bench.due("FIXED", Bench.num(o, symbols + 24 + 6, 2), 0xfff1);
        Bench.due("VALUE 0", Bench.num(o, symbols + 24 + 8, 8), 0);
        Bench.due("FIXED", Bench.num(o, symbols + 48 + 6, 2), 0xfff1);
        Bench.due("its VALUE", Bench.num(o, symbols + 48 + 8, 8), 7);
    }

    /** Sites count by their target; it is the target that a group drops. */
    private static void sitesInDroppedGroups() {
        Elf elf = Elf.program();
        int data = elf.data(new int[8]);
        int fixed = elf.global("f", Elf.FIXED, 5);
        int sites = elf.sites(data);
        elf.site(sites, 0, 1, fixed, 1);
        elf.group(fixed, 1);
        elf.group(fixed, 1, sites);
        LinkHouse x = Bench.house(elf);
        Bench.due("link", x.link(false), 0);
        Bench.due("dropped", x.look(13), 1);
        Bench.due("the site is filled", x.out((int) x.out(64 + 56 + 8)), 6);
    }

    private static void weakDefinitionsAreShort() {
        Elf elf = new Elf();
        int text = elf.text(0x48, 0x8b, 0x05, 0, 0, 0, 0, 0);
        elf.global("_start", text, 0);
        int weak = elf.weak("weak", text, 7);
        elf.site(elf.sites(text), 3, 42, weak, -4);
        LinkHouse x = Bench.house(elf);
        Bench.due("link", x.link(false), 0);
        Bench.due("no slot", x.look(12), 0);
        Bench.due("the code", x.out((int) x.out(64 + 8)), 0x058d48L);
    }

    private static void stringsOfOtherGroups() {
        for (long flags : new long[] {0x30 | Elf.TEXT, 0x30 | Elf.DATA, 0x30 | Elf.THREADS}) {
            Elf elf = new Elf();
            elf.section(1, flags, 1, Bench.latin("ab\0ab\0"));
            elf.section(1, flags, 1, Bench.latin("c\0"));
            elf.global("_start", 1, 4);
            LinkHouse x = Bench.house(elf);
            Bench.due("link", x.link(false), 0);
            Bench.due("no pool", x.look(14), 0);
            Bench.due("its bytes", x.out((int) x.out(64 + 8)), 0x0063006261006261L);
            Bench.due("the next section", x.place(1), x.place(0) + 6);
            Bench.due("_start", Bench.address(x, "_start"), x.place(0) + 4);
        }
    }

    /** A local symbol of KIND 3 stands for its section; others are a place from which A goes. */
    private static void kindsOfLocals() {
        for (int kind = 0; kind < 16; kind++) {
            Elf elf = new Elf();
            int text = elf.text(new int[16]);
            int strings = elf.strings("abc\0bc\0");
            elf.global("_start", text, 0);
            int sites = elf.sites(text);
            int local = elf.local(kind, strings, 0);
            elf.site(sites, 0, 10, local, 4).site(sites, 4, 11, local, 4)
                    .site(sites, 8, 1, local, 4);
            LinkHouse x = Bench.house(elf);
            Bench.due("link", x.link(false), 0);
            long want = x.place(1) + (kind == 3 ? 1 : 4);
            int at = (int) x.out(64 + 8);
            Bench.due("how 10 and 11 of KIND " + kind, x.out(at), want << 32 | want);
            Bench.due("how 1", x.out(at + 8), want);
        }
    }

    private static void slotsBeforeEdata() {
        Elf elf = new Elf();
        int text = elf.text(new int[8]);
        elf.data(1, 2, 3);
        elf.zeros(Elf.DATA, 1, 5);
        int start = elf.global("_start", text, 0);
        elf.undefined("_edata");
        elf.undefined("__bss_start");
        elf.site(elf.sites(text), 0, 9, start, 0);
        LinkHouse x = Bench.house(elf);
        Bench.due("link", x.link(false), 0);
        Bench.due("_edata", Bench.address(x, "_edata"), x.place(1) + 16);
        Bench.due("__bss_start", Bench.address(x, "__bss_start"), x.place(1) + 16);
    }

    private static void emptySectionsAlignTemplate() {
        Elf elf = Elf.program();
        elf.section(1, Elf.THREADS, 64, new byte[0]);
        elf.section(1, Elf.THREADS, 4, Bench.bytes(1));
        LinkHouse x = Bench.house(elf);
        Bench.due("link", x.link(false), 0);
        int row = 64 + 2 * 56;
        Bench.due("ALIGN", x.out(row + 48), 64);
        Bench.due("it begins with the empty one", x.out(row + 16), x.place(1));
        Bench.due("TP", x.look(15), x.place(1) + 64);
        elf.zeros(Elf.THREADS, 256, 0);
        x = Bench.house(elf);
        Bench.due("link", x.link(false), 0);
        Bench.due("ALIGN of an empty one of group 5", x.out(row + 48), 256);
        Bench.due("TP", x.look(15), x.place(3));
    }

    /** The template takes no room, however large its memory is. */
    private static void largeTemplate() {
        Elf elf = Elf.program();
        for (int k = 0; k < 5; k++) {
            elf.zeros(Elf.THREADS, 1, 16384);
        }
        elf.data(9);
        LinkHouse x = Bench.house(elf);
        Bench.due("link", x.link(false), 0);
        Bench.due("memory of the segment", x.out(64 + 56 + 40), 1);
        Bench.due("memory of the template", x.out(64 + 112 + 40), 5 * 16384);
        Bench.due("TP", x.look(15), x.place(1) + 5 * 16384);
        Bench.due("what comes then", x.place(6), x.place(1));
        Bench.due("boot", x.boot(false), 0);
    }

    private static void mergedInOrderOfDefinitions() {
        Elf first = new Elf();
        first.undefined("late");
        first.weak("_start", Elf.FIXED, 1);
        Elf second = new Elf();
        second.global("early", Elf.FIXED, 2);
        second.global("late", Elf.FIXED, 3);
        second.global("_start", Elf.FIXED, 4);
        LinkHouse x = Bench.house(first, second);
        Bench.wish(x, "late");
        Bench.due("merge", x.merge(), 0);
        byte[] o = Bench.out(x);
        int at = Elf.placeOf(o, 2);
        StringBuilder names = new StringBuilder();
        for (int k = at; k < at + 19; k++) {
            names.append((char) o[k]);
        }
        Bench.due("names", names.toString(), "\0_start\0early\0late\0");
        Bench.due("map", x.map(), 3 * 18 + 6 + 5 + 4);
        Bench.due("in the same order", Bench.outText(x), "0000000000000004 _start\n"
                + "0000000000000002 early\n0000000000000003 late\n");
    }

    /** A common that did not stay stands in no segment, even if the third one is there. */
    private static void namedWithoutCommon() {
        Elf elf = new Elf();
        int text = elf.text(new int[8]);
        elf.common("idle", 4, 4);
        elf.global("_start", text, 0);
        elf.site(elf.sites(text), 0, 2, elf.common("used", 4, 8), 0);
        LinkHouse x = Bench.house(elf);
        Bench.due("link", x.link(true), 0);
        x.named();
        byte[] o = Bench.out(x);
        int symbols = Elf.placeOf(o, (int) Bench.num(o, 60, 2) - 2);
        Bench.due("WHERE of idle", Bench.num(o, symbols + 24 + 6, 2), 0xfff1);
        Bench.due("its address", Bench.num(o, symbols + 24 + 8, 8), 0);
        Bench.due("WHERE of used", Bench.num(o, symbols + 72 + 6, 2), 2);
        Bench.due("its address", Bench.num(o, symbols + 72 + 8, 8), x.out(64 + 56 + 16));
    }

    private static void mapOfMembers() {
        LinkHouse x = new LinkHouse();
        Bench.wish(x, "_start");
        Elf elf = new Elf();
        elf.section(7, 0, 1, new byte[0]);
        elf.global("_start", elf.text(1), 0);
        Bench.add(x, Bench.archive(Bench.member("/", new byte[0]),
                Bench.member("a/", chained("a")), Bench.member("s/", elf.build())));
        Bench.due("link", x.link(false), 0);
        x.map();
        Bench.due("file, member, number", Bench.outText(x),
                "0000000000400080 1 0 0.2.2\n0000000000400080 _start\n");
    }
}
