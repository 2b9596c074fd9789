/** Promise 5: strengths, doubles, wanted names, groups; with 16 address. */
final class ResolveTest {
    public static void main(String[] args) {
        strengths();
        doubles();
        doubleOfGiven();
        commons();
        missing();
        ownNamesAreNotMissing();
        start();
        groups();
        droppedDefinitions();
        groupsOfMembers();
        addresses();
        Bench.end();
    }

    /** An object with one symbol of a name; its data is one byte, at VALUE 0. */
    private static Elf one(String name, int bind, int where, long value, long size) {
        Elf elf = new Elf();
        int data = elf.data(7);
        elf.symbol(name, bind, 1, where == 1 ? data : where, value, size);
        return elf;
    }

    private static long addressIn(String name, Elf... more) {
        LinkHouse x = Bench.house(Elf.program());
        for (Elf elf : more) {
            Bench.due("add", Bench.add(x, elf), 0);
        }
        Bench.due("link", x.link(false), 0);
        return Bench.address(x, name);
    }

    private static void strengths() {
        Elf weak = one("n", Elf.WEAK, Elf.FIXED, 10, 0);
        Elf otherWeak = one("n", Elf.WEAK, Elf.FIXED, 20, 0);
        Elf global = one("n", Elf.GLOBAL, Elf.FIXED, 30, 0);
        Elf common = one("n", Elf.GLOBAL, Elf.COMMON, 8, 4);
        Bench.due("the first weak one stays", addressIn("n", weak, otherWeak), 10);
        Bench.due("global replaces weak", addressIn("n", weak, global), 30);
        Bench.due("weak does not replace global", addressIn("n", global, weak), 30);
        Bench.due("global replaces common", addressIn("n", common, global), 30);
        Bench.due("common does not replace global", addressIn("n", global, common), 30);
        boolean laid = addressIn("n", weak, common) > 0x400000;
        Bench.due("common replaces weak", laid, true);
        laid = addressIn("n", common, weak) > 0x400000;
        Bench.due("weak does not replace common", laid, true);
        LinkHouse x = Bench.house(Elf.program(), weak, one("n", Elf.WEAK, Elf.COMMON, 8, 4));
        x.link(false);
        Bench.due("a weak common is a common", Bench.address(x, "n") > 0x400000, true);
    }

    private static void doubles() {
        Elf first = Elf.program();
        first.global("a", Elf.FIXED, 1);
        first.global("b", Elf.FIXED, 2);
        Elf second = new Elf();
        second.text(1, 2);
        second.undefined("z");
        second.global("b", Elf.FIXED, 2);
        second.global("a", Elf.FIXED, 1);
        second.undefined("last");
        LinkHouse x = Bench.house(first, second, one("c", Elf.GLOBAL, 1, 0, 0));
        Bench.due("link", x.link(true), 1);
        Bench.due("the first that comes", Bench.outText(x), "b");
        Bench.due("objects taken", x.look(5), 2);
        Bench.due("the last one taken", x.taken(1, 0), true);
        Bench.due("behind it", x.taken(2, 0), false);
        Bench.due("kept sections", x.look(6), 2);
        Bench.due("names, of the double's object too", x.look(8), 5);
        Bench.due("slots", x.look(12), 0);
        Bench.due("segments", x.look(7), 0);
        Bench.due("merge", x.merge(), 1);
        Bench.due("OUT", Bench.outText(x), "b");
        Elf self = new Elf();
        self.global("s", Elf.FIXED, 1);
        self.global("s", Elf.FIXED, 1);
        Bench.due("in one object", Bench.house(self).link(false), 1);
    }

    private static void doubleOfGiven() {
        LinkHouse x = Bench.house(Elf.program());
        Bench.give(x, "_start", 1);
        Bench.due("link", x.link(false), 1);
        Bench.due("OUT", Bench.outText(x), "_start");
        LinkHouse y = Bench.house(Elf.program(), one("g", Elf.WEAK, Elf.FIXED, 10, 0),
                one("g", Elf.GLOBAL, Elf.COMMON, 8, 4));
        Bench.give(y, "g", 99);
        Bench.due("link", y.link(false), 0);
        Bench.due("given is stronger", Bench.address(y, "g"), 99);
    }

    private static void commons() {
        LinkHouse x = Bench.house(Elf.program(), one("c", Elf.GLOBAL, Elf.COMMON, 64, 4),
                one("c", Elf.GLOBAL, Elf.COMMON, 8, 100));
        Bench.due("link", x.link(false), 0);
        Bench.due("the greatest VALUE", Bench.address(x, "c") % 64, 0);
        Elf end = new Elf();
        end.undefined("_end");
        Bench.add(x, end);
        x.link(false);
        long size = Bench.address(x, "_end") - Bench.address(x, "c");
        Bench.due("the greatest SIZE", size, 100);
    }

    private static void missing() {
        Elf first = Elf.program();
        first.weak("w", 0, 0);
        first.undefined("u");
        first.undefined("t");
        LinkHouse x = Bench.house(first);
        Bench.due("link", x.link(true), 2);
        Bench.due("the first by symbols", Bench.outText(x), "u");
        Bench.due("kept sections", x.look(6), 1);
        Bench.due("names", x.look(8), 4);
        Bench.give(x, "u", 1);
        x.link(false);
        Bench.due("the next", Bench.outText(x), "t");
        Bench.wish(x, "late");
        x.link(false);
        Bench.due("wished ones come first", Bench.outText(x), "late");
        Bench.dueThrow("address", IllegalStateException.class, () -> Bench.address(x, "u"));
        Bench.due("the tape stays", x.look(1), 1);
    }

    private static void ownNamesAreNotMissing() {
        Elf elf = Elf.program();
        elf.undefined("_end");
        elf.undefined("_etext");
        elf.undefined("_edata");
        elf.undefined("__bss_start");
        LinkHouse x = Bench.house(elf);
        Bench.due("link", x.link(false), 0);
        Bench.due("_etext", Bench.address(x, "_etext"), 0x400082);
        Bench.due("_edata", Bench.address(x, "_edata"), 0x401000);
        Bench.due("__bss_start", Bench.address(x, "__bss_start"), 0x401000);
        Bench.due("_end", Bench.address(x, "_end"), 0x401000);
        Bench.add(x, one("_end", Elf.GLOBAL, Elf.FIXED, 5, 0));
        Bench.due("link", x.link(false), 0);
        Bench.due("an object's definition goes first", Bench.address(x, "_end"), 5);
        LinkHouse y = Bench.house(Elf.program());
        y.link(false);
        Bench.due("no one has it", Bench.address(y, "_end"), -1);
        Bench.wish(y, "_end");
        Bench.due("link", y.link(false), 0);
        Bench.due("wished", Bench.address(y, "_end"), 0x401000);
        Bench.due("names", y.look(8), 2);
    }

    private static void start() {
        LinkHouse x = Bench.house(one("a", Elf.GLOBAL, 1, 0, 0));
        Bench.due("link", x.link(false), 2);
        Bench.due("none defines _start", Bench.outText(x), "_start");
        LinkHouse y = Bench.house(one("_start", Elf.WEAK, 0, 0, 0));
        Bench.due("a weak undefined one", y.link(false), 2);
        Bench.due("OUT", Bench.outText(y), "_start");
        LinkHouse z = Bench.house(one("_start", Elf.GLOBAL, Elf.COMMON, 16, 4));
        Bench.due("a common one", z.link(false), 0);
        Bench.due("ENTRY", z.out(24), 0x400090);
        Bench.due("none of all files", new LinkHouse().link(true), 2);
    }

    /** A group of two sections, with a global in each and a local in the second. */
    private static Elf grouped(String signature, int flags, int first, int bind) {
        Elf elf = new Elf();
        int a = elf.data(first);
        int b = elf.text(first, first);
        int sign = elf.symbol(signature, bind, 0, a, 0, 0);
        elf.symbol("of" + first, Elf.GLOBAL, 0, b, 1, 0);
        elf.group(sign, flags, a, b);
        return elf;
    }

    private static void groups() {
        LinkHouse x = Bench.house(Elf.program(), grouped("sign", 1, 1, Elf.WEAK),
                grouped("sign", 1, 2, Elf.WEAK));
        Bench.give(x, "of2", 77);
        Bench.due("link", x.link(false), 0);
        Bench.due("dropped", x.look(13), 1);
        Bench.due("kept sections", x.look(6), 3);
        Bench.due("the first group's", Bench.address(x, "of1") > 0x400000, true);
        x.forget();
        Bench.due("a dropped definition is wanted", x.link(false), 2);
        Bench.due("OUT", Bench.outText(x), "of2");
        LinkHouse y = Bench.house(Elf.program(), grouped("sign", 0, 1, Elf.WEAK),
                grouped("sign", 1, 2, Elf.WEAK), grouped("sign", 0, 3, Elf.WEAK));
        Bench.due("FLAGS 0 are no such groups", y.link(false), 0);
        Bench.due("dropped", y.look(13), 0);
        Bench.due("kept sections", y.look(6), 7);
        LinkHouse z = Bench.house(Elf.program(), grouped("one", 1, 1, Elf.GLOBAL),
                grouped("other", 1, 2, Elf.GLOBAL));
        Bench.due("another signature", z.link(false), 0);
        Bench.due("dropped", z.look(13), 0);
        Elf both = new Elf();
        int a = both.data(1);
        int b = both.data(2);
        int sign = both.weak("sign", Elf.FIXED, 0);
        both.group(sign, 1, a);
        both.group(sign, 1, b);
        LinkHouse own = Bench.house(Elf.program(), both);
        Bench.due("link", own.link(false), 0);
        Bench.due("an earlier one of the same object", own.look(13), 1);
        Bench.due("the first stays", own.section(1, 2), a);
    }

    private static void droppedDefinitions() {
        LinkHouse x = Bench.house(Elf.program(), grouped("sign", 1, 1, Elf.GLOBAL),
                grouped("sign", 1, 1, Elf.GLOBAL));
        Bench.due("no double", x.link(false), 0);
        Elf locals = Elf.program();
        int kept = locals.data(0, 0, 0, 0, 0, 0, 0, 0, 0, 0, 0, 0, 0, 0, 0, 0);
        int gone = locals.data(1);
        int noted = locals.section(1, 0, 1, new byte[4]);
        int first = locals.local(0, gone, 9);
        int second = locals.local(0, noted, 9);
        int sites = locals.sites(kept);
        locals.site(sites, 0, 1, first, 1).site(sites, 8, 1, second, 1);
        int sign = locals.weak("sign", Elf.FIXED, 0);
        locals.group(sign, 1);
        locals.group(sign, 1, gone);
        LinkHouse y = Bench.house(locals);
        Bench.due("link", y.link(false), 0);
        int at = (int) y.out(64 + 56 + 8);
        Bench.due("a local one of a dropped section has address 0", y.out(at), 1);
        Bench.due("in a section that is not kept: VALUE", y.out(at + 8), 10);
    }

    private static void groupsOfMembers() {
        LinkHouse x = new LinkHouse();
        Elf first = grouped("sign", 1, 1, Elf.WEAK);
        first.global("_start", Elf.FIXED, 4);
        first.undefined("of2");
        Bench.add(x, first);
        byte[] dropped = grouped("sign", 1, 2, Elf.WEAK).build();
        byte[] plain = one("of2", Elf.GLOBAL, Elf.FIXED, 5, 0).build();
        Bench.add(x, Bench.archive(Bench.member("d/", dropped), Bench.member("p/", plain)));
        Bench.due("link", x.link(false), 0);
        Bench.due("taken by what it defines", x.taken(1, 0), true);
        Bench.due("still wanted behind it", x.taken(1, 1), true);
        Bench.due("dropped", x.look(13), 1);
        Bench.due("its address", Bench.address(x, "of2"), 5);
    }

    private static void addresses() {
        Elf elf = new Elf();
        int text = elf.text(1, 2, 3);
        elf.global("_start", text, 1);
        elf.weak("far", text, -1);
        elf.weak("none", 0, 0);
        elf.local(0, text, 0);
        LinkHouse x = Bench.house(elf);
        Bench.due("link", x.link(false), 0);
        Bench.due("in a section", Bench.address(x, "_start"), 0x400081);
        Bench.due("VALUE modulo 2^64", Bench.address(x, "far"), 0x40007f);
        Bench.due("undefined", Bench.address(x, "none"), 0);
        Bench.due("unknown", Bench.address(x, "other"), -1);
        Bench.due("an empty tape", x.address(), -1);
        Bench.due("a 0 at the end", Bench.address(x, "none\0"), -1);
        Bench.due("the tape is used up", x.look(1), 0);
        x.drop();
        Bench.due("what the link found stays", Bench.address(x, "_start"), 0x400081);
        Bench.due("link", x.link(false), 2);
        Bench.dueThrow("not done", IllegalStateException.class, () -> x.address());
    }
}
