/** Promise 6 merge. */
final class MergeTest {
    public static void main(String[] args) {
        nothing();
        whole();
        locals();
        names();
        linksTheSame();
        answers();
        limits();
        Bench.end();
    }

    private static long field(byte[] object, int section, int at, int n) {
        return Bench.num(object, Elf.rowOf(object, section) + at, n);
    }

    private static void dueRow(byte[] o, int i, long type, long flags, long... rest) {
        Bench.due("NAME of " + i, field(o, i, 0, 4), 0);
        Bench.due("TYPE of " + i, field(o, i, 4, 4), type);
        Bench.due("FLAGS of " + i, field(o, i, 8, 8), flags);
        Bench.due("at 16 of " + i, field(o, i, 16, 8), 0);
        Bench.due("PLACE of " + i, field(o, i, 24, 8), rest[0]);
        Bench.due("SIZE of " + i, field(o, i, 32, 8), rest[1]);
        Bench.due("LINK of " + i, field(o, i, 40, 4), rest[2]);
        Bench.due("INFO of " + i, field(o, i, 44, 4), rest[3]);
        Bench.due("ALIGN of " + i, field(o, i, 48, 8), rest[4]);
        Bench.due("at 56 of " + i, field(o, i, 56, 8), rest[5]);
    }

    private static void dueSymbol(byte[] o, int table, int j, String name, long... want) {
        int at = (int) field(o, table, 24, 8) + 24 * j;
        int names = (int) field(o, table + 1, 24, 8);
        StringBuilder text = new StringBuilder();
        for (int k = names + (int) Bench.num(o, at, 4); o[k] != 0; k++) {
            text.append((char) o[k]);
        }
        Bench.due("name of symbol " + j, text.toString(), name);
        Bench.due("byte at 4 of " + name, Bench.num(o, at + 4, 1), want[0]);
        Bench.due("byte at 5 of " + name, Bench.num(o, at + 5, 1), 0);
        Bench.due("WHERE of " + name, Bench.num(o, at + 6, 2), want[1]);
        Bench.due("VALUE of " + name, Bench.num(o, at + 8, 8), want[2]);
        Bench.due("SIZE of " + name, Bench.num(o, at + 16, 8), want[3]);
    }

    private static void nothing() {
        LinkHouse x = new LinkHouse();
        Bench.due("merge", x.merge(), 2);
        byte[] o = Bench.out(x);
        // a symbol at 64, a name's byte at 88, rows from 96 on
        Bench.due("bytes", o.length, 96 + 3 * 64);
        Bench.due("the head", Bench.hex(o).substring(0, 128),
                "7f454c46020101000000000000000000" + "01003e00010000000000000000000000"
                + "00000000000000006000000000000000" + "00000000400000000000400003000200");
        dueRow(o, 0, 0, 0, 0, 0, 0, 0, 0, 0);
        dueRow(o, 1, 2, 0, 64, 24, 2, 1, 8, 24);
        dueRow(o, 2, 3, 0, 88, 1, 0, 0, 1, 0);
        Bench.due("the answer", x.look(3), 2);
    }

    private static void whole() {
        Elf first = new Elf();
        int unkept = first.section(7, 0, 1, new byte[3]);
        int text = first.section(1, 0x206, 16, Bench.bytes(1, 2, 3, 4, 5, 6, 7, 8, 9));
        int sites = first.sites(text);
        int zeros = first.zeros(Elf.DATA, 64, 100);
        int local = first.local(3, text, 4);
        first.global("_start", text, 1);
        int far = first.undefined("far");
        first.site(sites, 0, 4, far, -4).site(sites, 4, 2, local, 7).site(sites, 0, 0, 0, 9);
        Elf second = new Elf();
        second.data(0x55);
        second.symbol("far", Elf.GLOBAL, 2, 1, 6, 7);
        LinkHouse x = Bench.house(first, second);
        Bench.due("merge", x.merge(), 0);
        byte[] o = Bench.out(x);
        Bench.due("sections", Bench.num(o, 60, 2), 7);
        Bench.due("names' section", Bench.num(o, 62, 2), 6);
        dueRow(o, 1, 1, 0x206, 64, 9, 0, 0, 16, 0);
        dueRow(o, 2, 8, 3, 80, 100, 0, 0, 64, 0);
        dueRow(o, 3, 4, 0, 80, 72, 5, 1, 8, 24);
        dueRow(o, 4, 1, 3, 152, 1, 0, 0, 1, 0);
        dueRow(o, 5, 2, 0, 160, 96, 6, 2, 8, 24);
        dueRow(o, 6, 3, 0, 256, 12, 0, 0, 1, 0);
        Bench.due("rows", Bench.num(o, 40, 8), 272);
        Bench.due("bytes", o.length, 272 + 7 * 64);
        Bench.due("text", Bench.num(o, 64, 8), 0x0807060504030201L);
        Bench.due("text and 0s", Bench.num(o, 72, 8), 9);
        Bench.due("the first site's symbol", Bench.num(o, 80 + 12, 4), 3);
        Bench.due("the second site's symbol", Bench.num(o, 104 + 12, 4), 1);
        Bench.due("the second site's A", Bench.num(o, 104 + 16, 8), 7);
        Bench.due("the third site's symbol", Bench.num(o, 128 + 12, 4), 0);
        dueSymbol(o, 5, 0, "", 0, 0, 0, 0);
        dueSymbol(o, 5, 1, "", 3, 1, 4, 0);
        dueSymbol(o, 5, 2, "_start", 0x10, 1, 1, 0);
        dueSymbol(o, 5, 3, "far", 0x12, 4, 6, 7);
        Bench.due("unkept, zeros", unkept < zeros, true);
        Bench.due("0s behind the names", Bench.num(o, 268, 4), 0);
        Bench.due("it is an object", Bench.add(new LinkHouse(), o), 0);
        Bench.due("merge again", x.merge(), 0);
        Bench.due("the same", Bench.out(x), o);
    }

    private static void locals() {
        Elf elf = Elf.program();
        int note = elf.section(1, 0, 1, new byte[3]);
        int gone = elf.data(1);
        elf.symbol("", Elf.LOCAL, 4, note, 5, 6);
        elf.symbol("", Elf.LOCAL, 1, gone, 7, 8);
        elf.symbol("", Elf.LOCAL, 2, Elf.FIXED, 9, 10);
        elf.symbol("", Elf.LOCAL, 0, 0, 11, 12);
        int sign = elf.weak("sign", gone, 0);
        elf.group(sign, 1);
        elf.group(sign, 1, gone);
        LinkHouse x = Bench.house(elf);
        Bench.due("merge", x.merge(), 0);
        byte[] o = Bench.out(x);
        dueSymbol(o, 2, 1, "", 4, 0xfff1, 5, 6);
        dueSymbol(o, 2, 2, "", 1, 0xfff1, 0, 8);
        dueSymbol(o, 2, 3, "", 2, 0xfff1, 9, 10);
        dueSymbol(o, 2, 4, "", 0, 0, 11, 12);
        dueSymbol(o, 2, 5, "_start", 0x10, 1, 0, 0);
        dueSymbol(o, 2, 6, "sign", 0x20, 0, 0, 0);
        Bench.due("how many are 0 or local", field(o, 2, 44, 4), 5);
    }

    private static void names() {
        LinkHouse x = new LinkHouse();
        Bench.give(x, "given", -2);
        Bench.wish(x, "wish");
        Bench.wish(x, "com");
        Elf elf = new Elf();
        elf.undefined("late");
        elf.weak("soft", 0, 0);
        elf.undefined("_end");
        elf.weak("com", Elf.FIXED, 3);
        elf.weak("fix", Elf.FIXED, 4);
        elf.symbol("com", Elf.WEAK, 1, Elf.COMMON, 8, 2);
        elf.symbol("com", Elf.GLOBAL, 1, Elf.COMMON, 2, 30);
        elf.undefined("soft");
        elf.weak("weak", 0, 0);
        Bench.add(x, elf);
        Bench.due("merge", x.merge(), 2);
        byte[] o = Bench.out(x);
        dueSymbol(o, 1, 1, "given", 0x10, 0xfff1, -2, 0);
        dueSymbol(o, 1, 2, "com", 0x10, 0xfff2, 8, 30);
        dueSymbol(o, 1, 3, "fix", 0x20, 0xfff1, 4, 0);
        dueSymbol(o, 1, 4, "wish", 0x10, 0, 0, 0);
        dueSymbol(o, 1, 5, "late", 0x10, 0, 0, 0);
        dueSymbol(o, 1, 6, "soft", 0x10, 0, 0, 0);
        dueSymbol(o, 1, 7, "_end", 0x10, 0, 0, 0);
        dueSymbol(o, 1, 8, "weak", 0x20, 0, 0, 0);
        Bench.due("symbols", field(o, 1, 32, 8), 24 * 9);
    }

    private static void linksTheSame() {
        Elf first = new Elf();
        int text = first.text(new int[16]);
        first.global("_start", text, 3);
        int s = first.sites(text);
        int far = first.undefined("far");
        first.site(s, 0, 9, far, -4).site(s, 4, 10, far, 0).site(s, 8, 2, 1, 0);
        Elf second = new Elf();
        second.global("far", second.data(1, 2, 3), 2);
        second.common("com", 16, 8);
        LinkHouse x = Bench.house(first, second);
        x.link(false);
        byte[] file = Bench.out(x);
        x.merge();
        byte[] merged = Bench.out(x);
        LinkHouse y = new LinkHouse();
        Bench.due("add", Bench.add(y, merged), 0);
        Bench.due("link", y.link(false), 0);
        Bench.due("the file", Bench.out(y), file);
    }

    private static void answers() {
        LinkHouse x = Bench.house(Elf.program(), Elf.program());
        Bench.due("a double", x.merge(), 1);
        Bench.due("OUT", Bench.outText(x), "_start");
        Elf over = new Elf();
        int text = over.text(0, 0, 0, 0);
        over.global("_start", text, 0);
        int far = over.global("far", Elf.FIXED, -1);
        over.site(over.sites(text), 0, 10, far, 0);
        LinkHouse y = Bench.house(over);
        Bench.due("a site runs over", y.merge(), 4);
        Bench.due("OUT is MERGED all the same", y.look(2) > 300, true);
        Bench.due("look 4", y.look(4), 0x400080);
    }

    private static void limits() {
        Elf many = new Elf();
        for (int k = 0; k < 21; k++) {
            many.text(k);
        }
        many.global("_start", 1, 0);
        LinkHouse x = Bench.house(many);
        Bench.due("24 sections", x.merge(), 0);
        Elf one = new Elf();
        one.text(1);
        Bench.add(x, one);
        Bench.due("25 sections", x.merge(), -1);
        Bench.due("OUT is as behind the link", x.look(2) > 8, true);
        Bench.due("OUT is a file", x.out(16) & 0xffff, 2);
        Bench.due("the answer", x.look(3), 0);
        Elf symbols = new Elf();
        for (int k = 0; k < 62; k++) {
            symbols.local(0, 0, 0);
        }
        symbols.global("_start", Elf.FIXED, 0);
        LinkHouse y = Bench.house(symbols);
        Bench.due("64 symbols", y.merge(), 0);
        Bench.wish(y, "w");
        Bench.due("65 symbols", y.merge(), -1);
        Bench.due("OUT is as behind the link", Bench.outText(y), "w");
        // 64, 7 * 1000, what comes then, 3 symbols, 10 bytes of names up to 16, 11 rows
        int rest = 8192 - 64 - 7 * 1000 - 3 * 24 - 16 - 11 * 64;
        LinkHouse z = Bench.house(large("_start", 7, 1000), large("b", 1, rest));
        Bench.due("8192 bytes", z.merge(), 0);
        Bench.due("OUT", z.look(2), 8192);
        z.drop();
        Bench.add(z, large("b", 1, rest + 1));
        Bench.due("more", z.merge(), -1);
        Bench.due("OUT is a file", z.out(16) & 0xffff, 2);
    }

    /** An object with some sections of so many bytes each. */
    private static Elf large(String name, int sections, int size) {
        Elf elf = new Elf();
        for (int k = 0; k < sections; k++) {
            elf.shared(Elf.DATA, 1, size);
        }
        elf.global(name, 1, 0);
        return elf;
    }
}
