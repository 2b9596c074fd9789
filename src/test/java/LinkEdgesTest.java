/** Promises 5, 7, 8, 9 and 16 at their limits: strengths, wanted names, groups, REACHED. */
final class LinkEdgesTest {
    public static void main(String[] args) {
        weakerOnesChangeNothing();
        commonsOfBoth();
        symbolsInOrder();
        firstDefinitions();
        givenNames();
        leftNames();
        ownNames();
        groupsInOrder();
        groupBytesEnd();
        droppedSymbols();
        droppedCommonsAndFixed();
        reachedAcrossObjects();
        reachedByNames();
        reachedAgain();
        beginsAnew();
        longNames();
        afterTheLink();
        Bench.end();
    }

    private static Elf one(String name, int bind, int where, long value, long size) {
        Elf elf = new Elf();
        elf.symbol(name, bind, 0, where, value, size);
        return elf;
    }

    private static LinkHouse linked(Elf... more) {
        LinkHouse x = Bench.house(Elf.program());
        for (Elf elf : more) {
            Bench.due("add", Bench.add(x, elf), 0);
        }
        Bench.due("link", x.link(false), 0);
        return x;
    }

    private static void weakerOnesChangeNothing() {
        Elf global = one("n", Elf.GLOBAL, Elf.FIXED, 3, 4);
        Elf common = one("n", Elf.GLOBAL, Elf.COMMON, 4096, 100);
        Elf weak = one("n", Elf.WEAK, Elf.FIXED, 1 << 20, 1 << 20);
        LinkHouse x = linked(global, common, weak);
        Bench.due("a global one stays", Bench.address(x, "n"), 3);
        Bench.due("no common is laid out", x.look(7), 1);
        LinkHouse y = linked(one("n", Elf.GLOBAL, Elf.COMMON, 8, 4), weak);
        y.named();
        byte[] o = Bench.out(y);
        int symbols = (int) Bench.num(o, Elf.rowOf(o, 3) + Elf.PLACE, 8);
        Bench.due("a weak one does not make a common one greater", Bench.num(o, symbols + 64, 8),
                4);
        Bench.due("nor its alignment", Bench.address(y, "n"), 0x4010c0);
        Bench.due("two weak ones are no double", linked(weak, weak).look(3), 0);
        Bench.due("common and weak are no double", linked(common, weak, common).look(3), 0);
    }

    private static void commonsOfBoth() {
        Elf low = one("c", Elf.GLOBAL, Elf.COMMON, 1, 100);
        Elf high = one("c", Elf.WEAK, Elf.COMMON, 64, 1);
        Elf ahead = one("a", Elf.GLOBAL, Elf.COMMON, 1, 1);
        Elf end = new Elf();
        end.undefined("_end");
        for (int k = 0; k < 2; k++) {
            LinkHouse x = linked(ahead, k == 0 ? low : high, k == 0 ? high : low, end);
            Bench.due("the greatest VALUE", Bench.address(x, "c"), 0x401100);
            Bench.due("the greatest SIZE", Bench.address(x, "_end"), 0x401100 + 100);
        }
    }

    private static void symbolsInOrder() {
        Elf elf = new Elf();
        elf.weak("n", Elf.FIXED, 1);
        elf.weak("n", Elf.FIXED, 2);
        elf.global("n", Elf.FIXED, 3);
        elf.weak("n", Elf.FIXED, 4);
        elf.weak("n", 0, 0);
        elf.undefined("n");
        LinkHouse x = linked(elf);
        Bench.due("of one object, too", Bench.address(x, "n"), 3);
        Bench.due("names", x.look(8), 2);
        elf.global("n", Elf.FIXED, 3);
        LinkHouse y = Bench.house(Elf.program(), elf);
        Bench.due("a double in one object", y.link(false), 1);
        Bench.due("OUT", Bench.outText(y), "n");
    }

    /** A definition that replaces another one stands where the first one came. */
    private static void firstDefinitions() {
        LinkHouse x = linked(one("b", Elf.WEAK, Elf.FIXED, 1, 0), one("a", Elf.WEAK, Elf.FIXED, 2,
                0), one("b", Elf.GLOBAL, Elf.FIXED, 3, 0), one("c", Elf.GLOBAL, 0, 0, 0),
                one("c", Elf.GLOBAL, Elf.FIXED, 4, 0));
        x.map();
        Bench.due("map", Bench.outText(x).substring(27), "0000000000400080 _start\n"
                + "0000000000000003 b\n" + "0000000000000002 a\n" + "0000000000000004 c\n");
    }

    private static void givenNames() {
        LinkHouse x = new LinkHouse();
        Bench.give(x, "g", -1);
        Bench.wish(x, "g");
        Elf elf = Elf.program();
        elf.undefined("g");
        Bench.add(x, elf);
        Bench.add(x, Bench.archive(Bench.member("m/", one("g", Elf.GLOBAL, Elf.FIXED, 5, 0)
                .build())));
        Bench.due("link", x.link(false), 0);
        Bench.due("a given name is not wanted", x.taken(1, 0), false);
        Bench.due("a value of all bits", Bench.address(x, "g"), -1);
        Bench.due("it counts once", x.look(8), 2);
        x.drop();
        Bench.add(x, one("g", Elf.GLOBAL, Elf.FIXED, 5, 0));
        Bench.due("a global one is a double", x.link(false), 1);
        Bench.due("OUT", Bench.outText(x), "g");
        x.drop();
        Bench.add(x, one("g", Elf.GLOBAL, Elf.COMMON, 4, 5));
        Bench.due("a common one is none", x.link(false), 0);
        Bench.due("given", Bench.address(x, "g"), -1);
        Bench.due("nothing is laid out", x.look(7), 1);
        LinkHouse y = new LinkHouse();
        Bench.give(y, "_start", 0);
        Bench.due("_start may be given as 0", y.link(true), 0);
        Bench.due("ENTRY", y.out(24), 0);
        Bench.due("0 is an address", Bench.address(y, "_start"), 0);
        Bench.due("link takes all given names", y.look(8), 1);
        Bench.give(y, "_end", 7);
        Bench.due("link", y.link(false), 0);
        Bench.due("the linker's names may be given", Bench.address(y, "_end"), 7);
    }

    private static void leftNames() {
        Elf first = new Elf();
        first.undefined("b");
        first.undefined("a");
        Elf second = new Elf();
        second.undefined("a");
        second.undefined("c");
        LinkHouse x = Bench.house(first, second);
        Bench.due("link", x.link(false), 2);
        Bench.due("by objects and their symbols", Bench.outText(x), "b");
        Bench.give(x, "b", 1);
        x.link(false);
        Bench.due("the next one", Bench.outText(x), "a");
        Bench.give(x, "a", 1);
        x.link(false);
        Bench.due("of the second object", Bench.outText(x), "c");
        Bench.give(x, "c", 1);
        x.link(false);
        Bench.due("_start is looked at last", Bench.outText(x), "_start");
        Bench.wish(x, "z");
        Bench.wish(x, "y");
        x.link(false);
        Bench.due("wished ones first, in their order", Bench.outText(x), "z");
        Bench.give(x, "z", 1);
        x.link(false);
        Bench.due("the next wished one", Bench.outText(x), "y");
        Bench.due("what a link without files lacks", new LinkHouse().link(false), 2);
    }

    private static void ownNames() {
        Elf weak = Elf.program();
        weak.weak("_end", 0, 0);
        weak.weak("_etext", 0, 0);
        weak.weak("end", 0, 0);
        LinkHouse x = Bench.house(weak);
        Bench.due("link", x.link(false), 0);
        Bench.due("weak ones get the linker's, too", Bench.address(x, "_end"), 0x401000);
        Bench.due("_etext", Bench.address(x, "_etext"), 0x400082);
        Bench.due("others stay undefined", Bench.address(x, "end"), 0);
        Bench.due("those no one has are none", Bench.address(x, "_edata"), -1);
        String[] names = {"_etext", "_edata", "__bss_start", "_end"};
        for (String name : names) {
            LinkHouse y = Bench.house(Elf.program());
            Bench.wish(y, name);
            Bench.due("link", y.link(false), 0);
            Bench.due(name + " may be wished", Bench.address(y, name) > 0, true);
            y.map();
            Bench.due("it is in no map", Bench.outText(y).indexOf(name), -1);
        }
        LinkHouse z = new LinkHouse();
        Bench.wish(z, "_start");
        Bench.due("_start is not the linker's", z.link(false), 2);
    }

    /** An object with groups of one section each; FLAGS and signatures as told. */
    private static Elf groups(String signatures, int... flags) {
        Elf elf = new Elf();
        for (int k = 0; k < flags.length; k++) {
            int data = elf.data(k);
            int sign = elf.weak(signatures.substring(k, k + 1), Elf.FIXED, 0);
            elf.group(sign, flags[k], data);
        }
        return elf;
    }

    private static void groupsInOrder() {
        LinkHouse x = linked(groups("aab", 1, 1, 1));
        Bench.due("an earlier one of the same object", x.look(13), 1);
        Bench.due("kept sections", x.look(6), 3);
        Bench.due("the second is dropped", x.section(2, 2), 5);
        x = linked(groups("ab", 0, 1), groups("ab", 1, 0), groups("ab", 1, 1));
        Bench.due("only those with FLAGS 1 count", x.look(13), 2);
        Bench.due("kept sections", x.look(6), 5);
        x = linked(groups("a", 1), groups("a", 1), groups("a", 1));
        Bench.due("a dropped one drops again", x.look(13), 2);
        Elf undefined = new Elf();
        int data = undefined.data(1);
        undefined.group(undefined.weak("a", 0, 0), 1, data);
        x = linked(groups("a", 1), undefined);
        Bench.due("a signature may be undefined", x.look(13), 1);
        Bench.due("kept sections", x.look(6), 2);
        Elf empty = new Elf();
        empty.group(empty.weak("a", 0, 0), 1);
        x = linked(empty, groups("a", 1));
        Bench.due("a group without sections counts", x.look(13), 1);
        Bench.due("kept sections", x.look(6), 1);
    }

    /** A group has the numbers in its bytes and no more. */
    private static void groupBytesEnd() {
        Elf elf = Elf.program();
        int gone = elf.data(1);
        int sign = elf.weak("sign", Elf.FIXED, 0);
        elf.group(sign, 1);
        elf.group(sign, 1, gone);
        // these bytes come next: the number of the text's section
        elf.section(1, Elf.DATA, 1, Bench.bytes(1, 0, 0, 0));
        LinkHouse x = Bench.house(elf);
        Bench.due("link", x.link(false), 0);
        Bench.due("dropped", x.look(13), 1);
        Bench.due("kept sections", x.look(6), 2);
        Bench.due("the text is one", x.section(0, 2), 1);
    }

    private static void droppedSymbols() {
        Elf first = Elf.program();
        first.group(first.weak("sign", Elf.FIXED, 0), 1);
        Elf second = new Elf();
        int gone = second.data(new int[8]);
        int kept = second.data(new int[24]);
        int weak = second.weak("w", gone, 4);
        int local = second.local(0, gone, 4);
        int part = second.local(3, second.strings("abc\0"), 1);
        int sites = second.sites(kept);
        int goneSites = second.sites(gone);
        second.site(sites, 0, 1, weak, 1).site(sites, 8, 1, local, 2).site(sites, 16, 1, part, 3);
        second.site(goneSites, 0, 9, weak, 0);
        second.group(second.weak("sign", 0, 0), 1, gone, 3);
        LinkHouse x = Bench.house(first, second);
        Bench.due("link", x.link(false), 0);
        Bench.due("dropped", x.look(13), 1);
        Bench.due("a weak one is undefined", Bench.address(x, "w"), 0);
        int at = (int) x.out(64 + 56 + 8);
        Bench.due("its address is 0", x.out(at), 1);
        Bench.due("a local one's, too", x.out(at + 8), 2);
        Bench.due("of a strings' section, too", x.out(at + 16), 3);
        Bench.due("no pool", x.look(14), 0);
        Bench.due("no slot for its sites", x.look(12), 0);
        Bench.due("kept sections", x.look(6), 2);
        Bench.due("sum tells what the object has", x.sum(1, 0, 2), 32);
        Bench.due("list tells VALUE", x.list(1, 0) > 0, true);
        Bench.due("w", Bench.outText(x).substring(0, 21), "0000000000000004 W w\n");
    }

    private static void droppedCommonsAndFixed() {
        Elf first = Elf.program();
        first.group(first.weak("sign", Elf.FIXED, 0), 1);
        Elf second = new Elf();
        int data = second.data(1);
        second.common("c", 4, 4);
        second.global("f", Elf.FIXED, 9);
        second.group(second.weak("sign", 0, 0), 1, data);
        LinkHouse x = Bench.house(first, second);
        Bench.due("link", x.link(false), 0);
        Bench.due("a common one stays", Bench.address(x, "c"), 0x4010c0);
        Bench.due("a fixed one stays", Bench.address(x, "f"), 9);
    }

    private static void reachedAcrossObjects() {
        Elf first = new Elf();
        int text = first.text(new int[8]);
        first.text(1);
        first.global("_start", text, 0);
        int far = first.undefined("far");
        first.site(first.sites(text), 0, 4, far, 0);
        Elf second = new Elf();
        int idle = second.data(new int[8]);
        int data = second.data(new int[12]);
        int late = second.readOnly(7);
        int third = second.readOnly(8);
        second.global("far", data, 0);
        int sites = second.sites(data);
        second.site(sites, 0, 0, second.local(0, idle, 0), 0);
        second.site(sites, 0, 10, second.local(0, late, 0), 0);
        second.site(sites, 4, 10, second.local(0, third, 0), 0);
        second.site(second.sites(idle), 0, 1, 1, 0);
        Elf last = new Elf();
        last.global("idle", last.data(1, 2), 0);
        LinkHouse x = Bench.house(first, second, last, last("a"), last("b"), last("c"));
        Bench.due("link", x.link(true), 0);
        Bench.due("kept sections", x.look(6), 4);
        int[][] due = {{0, text}, {1, late}, {1, third}, {1, data}};
        for (int i = 0; i < due.length; i++) {
            Bench.due("file", x.section(i, 0), due[i][0]);
            Bench.due("number", x.section(i, 2), due[i][1]);
        }
        Bench.due("idle", Bench.address(x, "idle"), 0);
        Bench.due("sum tells what the object has", x.sum(2, 0, 2), 2);
        Bench.due("a name not reached counts", x.look(8), 6);
        Bench.due("without REACHED", x.link(false), 0);
        Bench.due("all", x.look(6), 10);
    }

    private static Elf last(String name) {
        Elf elf = new Elf();
        elf.global(name, elf.data(1), 0);
        return elf;
    }

    private static void reachedByNames() {
        Elf elf = new Elf();
        int text = elf.text(new int[24]);
        int weak = elf.data(1);
        int strong = elf.data(2);
        int end = elf.undefined("_end");
        elf.global("_start", text, 0);
        int name = elf.weak("n", weak, 0);
        elf.global("n", strong, 0);
        int fixed = elf.global("f", Elf.FIXED, 5);
        int sites = elf.sites(text);
        elf.site(sites, 0, 4, name, 0).site(sites, 4, 4, fixed, 0).site(sites, 8, 4, end, 0)
                .site(sites, 12, 4, 0, 0);
        LinkHouse x = Bench.house(elf);
        Bench.due("link", x.link(true), 0);
        Bench.due("kept sections", x.look(6), 2);
        Bench.due("that of the name's definition", x.section(1, 2), strong);
    }

    /** A second link with REACHED starts from nothing. */
    private static void reachedAgain() {
        Elf elf = new Elf();
        int text = elf.text(new int[8]);
        int data = elf.data(1);
        elf.weak("_start", text, 0);
        elf.site(elf.sites(text), 0, 4, elf.local(0, data, 0), 0);
        int common = elf.common("c", 4, 4);
        elf.site(elf.sites(text), 4, 4, common, 0);
        LinkHouse x = Bench.house(elf);
        Bench.due("link", x.link(true), 0);
        Bench.due("all is reached", x.look(6), 2);
        Bench.due("the common one", Bench.address(x, "c") > 0, true);
        Bench.give(x, "_start", 1);
        Bench.due("link", x.link(true), 0);
        Bench.due("nothing is", x.look(6), 0);
        Bench.due("nor the common one", Bench.address(x, "c"), 0);
        Bench.due("no segment", x.look(7), 0);
        Bench.due("64 bytes", x.look(2), 64);
        Bench.due("no rows", x.out(56) & 0xffff, 0);
        Bench.due("boot", x.boot(false), 6);
    }

    /** Nothing of an earlier link shines through. */
    private static void beginsAnew() {
        Elf weak = new Elf();
        weak.weak("w", 0, 0);
        weak.global("_start", weak.text(1, 2), 0);
        LinkHouse x = Bench.house(weak);
        Bench.give(x, "w", 0x77);
        x.link(false);
        Bench.due("given", Bench.address(x, "w"), 0x77);
        x.forget();
        Bench.due("link", x.link(false), 0);
        Bench.due("undefined", Bench.address(x, "w"), 0);
        Bench.wish(x, "w");
        Bench.due("wished", x.link(false), 2);
        x.forget();
        Bench.due("no more", x.link(false), 0);
        Elf strong = new Elf();
        strong.undefined("w");
        strong.group(strong.weak("w", 0, 0), 1);
        Bench.add(x, strong);
        Bench.due("missed by another one", x.link(false), 2);
        Bench.due("kept sections", x.look(6), 1);
        x.drop();
        Bench.due("gone with it", x.link(false), 0);
        Bench.due("one object", x.look(5), 1);
        homesGo();
        LinkHouse y = Bench.house(Elf.program(), groups("a", 1), groups("a", 1));
        for (int k = 0; k < 3; k++) {
            Bench.due("link", y.link(k == 1), 0);
            Bench.due("dropped", y.look(13), 1);
            Bench.due("kept", y.look(6), k == 1 ? 1 : 2);
        }
        y.drop();
        y.link(false);
        Bench.due("no one is dropped", y.look(13), 0);
        Bench.due("kept", y.look(6), 2);
        y.drop();
        y.link(false);
        Bench.due("kept sections of fewer objects", y.look(6), 1);
        y.drop();
        Bench.due("none at all", y.link(false), 2);
        Bench.due("kept", y.look(6), 0);
        Bench.due("taken", y.look(5), 0);
        Bench.due("names", y.look(8), 0);
    }

    /** Where a name was defined is forgotten, also when another name comes in its place. */
    private static void homesGo() {
        Elf own = new Elf();
        own.weak("_end", 0, 0);
        own.global("_start", own.text(1, 2), 0);
        LinkHouse x = Bench.house(own);
        Bench.due("link", x.link(false), 0);
        Bench.due("the linker's", Bench.address(x, "_end"), 0x401000);
        x.drop();
        Elf other = new Elf();
        int w = other.weak("w", 0, 0);
        int text = other.text(new int[8]);
        other.global("_start", text, 0);
        other.site(other.sites(text), 0, 9, w, 0);
        Bench.add(x, other);
        Bench.due("link", x.link(false), 0);
        Bench.due("undefined", Bench.address(x, "w"), 0);
        Bench.due("its slot", x.out((int) x.out(64 + 56 + 8)), 0);
        Bench.give(x, "w", 9);
        x.link(false);
        x.forget();
        Bench.due("merge", x.merge(), 0);
        byte[] o = Bench.out(x);
        int at = Elf.placeOf(o, 3);
        Bench.due("_start is defined", Bench.num(o, at + 24 + 4, 4), 0x10010);
        Bench.due("w is not", Bench.num(o, at + 48 + 4, 4), 0x20);
        Bench.due("nor has it a VALUE", Bench.num(o, at + 48 + 8, 8), 0);
    }

    /** All 20 bytes of a name count, and all come out. */
    private static void longNames() {
        String longest = "bdfhjlnpbdfhjlnpbdfh";
        Elf elf = Elf.program();
        for (int k = 0; k < 20; k++) {
            String other = longest.substring(0, k) + 'z' + longest.substring(k + 1);
            elf.global(other, Elf.FIXED, k + 100);
            elf.global(longest.substring(0, k + 1), Elf.FIXED, k);
        }
        LinkHouse x = Bench.house(elf);
        Bench.due("link", x.link(false), 0);
        Bench.due("names", x.look(8), 41);
        for (int k = 0; k < 20; k++) {
            String other = longest.substring(0, k) + 'z' + longest.substring(k + 1);
            Bench.due(other, Bench.address(x, other), k + 100);
            Bench.due("its beginning", Bench.address(x, longest.substring(0, k + 1)), k);
        }
        x.link(false);
        for (int n = 1; n <= 20; n++) {
            LinkHouse y = new LinkHouse();
            Bench.wish(y, longest.substring(20 - n));
            Bench.due("link", y.link(false), 2);
            Bench.due("OUT", Bench.outText(y), longest.substring(20 - n));
        }
        LinkHouse z = new LinkHouse();
        Bench.wish(z, "\u0001\u00ff\u0080 ");
        z.link(false);
        Bench.due("any byte but 0", Bench.outText(z), "\u0001\u00ff\u0080 ");
    }

    /** What is given, wished or dropped behind a link does not change what it found. */
    private static void afterTheLink() {
        LinkHouse x = Bench.house(Elf.program());
        Bench.wish(x, "_end");
        x.link(false);
        x.forget();
        Bench.give(x, "late", 5);
        Bench.wish(x, "later");
        Bench.due("given behind it", Bench.address(x, "late"), -1);
        Bench.due("wished behind it", Bench.address(x, "later"), -1);
        Bench.due("wished before", Bench.address(x, "_end"), 0x401000);
        Bench.due("names", x.look(8), 2);
        x.drop();
        Bench.due("kept sections", x.look(6), 1);
        Bench.due("objects", x.look(5), 1);
        Bench.due("place", x.place(0), 0x400080);
        Bench.due("segments", x.look(7), 1);
    }
}
