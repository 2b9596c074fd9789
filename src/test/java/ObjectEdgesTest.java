import java.util.Arrays;

/** Promise 3: where an object's limits lie to the byte, and that each number is read whole. */
final class ObjectEdgesTest {
    public static void main(String[] args) {
        wholeHead();
        wholeRows();
        exactEnds();
        rowsBehindTheLast();
        bytesThatAreFree();
        wholeSymbols();
        wholeSites();
        wholeGroups();
        targets();
        manySites();
        firstSymbolsRow();
        anotherInItsPlace();
        powers();
        Bench.end();
    }

    private static void due(String what, byte[] object, int want) {
        LinkHouse x = new LinkHouse();
        Bench.due(what, Bench.add(x, object), want);
        Bench.due(what + ": files", x.look(0), want == 0 ? 1 : 0);
        Bench.due(what + ": the tape is used up", x.look(1), 0);
    }

    /** Sets one byte of a number to 1, which leaves the number's other bytes as they were. */
    private static byte[] withByte(byte[] object, int at) {
        return Bench.with(object, at, 1, 1);
    }

    private static void wholeHead() {
        byte[] good = Elf.program().build();
        int[] highest = {17, 19, 21, 22, 23, 53, 59};
        for (int at : highest) {
            due("the head's byte " + at, withByte(good, at), 1);
        }
        for (int at : new int[] {7, 15, 24, 31, 32, 39, 48, 51, 54, 57, 62, 63}) {
            due("byte " + at + " of the head is free", withByte(good, at), 0);
        }
        due("S is read whole", withByte(good, 61), 2);
        for (int at = 42; at < 48; at++) {
            due("ROWS is read whole, byte " + at, withByte(good, at), 2);
        }
        due("64 bytes are a head without rows", Arrays.copyOf(good, 64), 2);
        due("no byte", new byte[0], 1);
    }

    private static void wholeRows() {
        byte[] good = Elf.program().build();
        int row = Elf.rowOf(good, 1);
        int[] named = {0, 1, 2, 3, 16, 23, 56, 63};
        for (int at : named) {
            due("byte " + at + " of a row is free", withByte(good, row + at), 0);
        }
        for (int k = 2; k < 8; k++) {
            due("PLACE, byte " + k, withByte(good, row + Elf.PLACE + k), 3);
            due("SIZE, byte " + k, withByte(good, row + Elf.SIZE + k), 3);
            due("ALIGN, byte " + k, withByte(good, row + Elf.ALIGN + k), 4);
        }
        byte[] wide = Elf.withRow(good, 1, Elf.FLAGS, 0xff000000000000L | Elf.TEXT);
        due("more bits of FLAGS", wide, 0);
        due("TYPE of section 0, its highest byte", withByte(good, Elf.rowOf(good, 0) + 7), 2);
        Elf elf = new Elf();
        elf.section(1, Elf.TEXT, 1, new byte[2]);
        elf.section(0x01000001, Elf.TEXT, 3, new byte[2]);
        elf.section(0x01000008, Elf.TEXT, 3, new byte[2]);
        elf.section(0x01000002, 0, 3, new byte[5]);
        elf.section(0x01000004, 0, 3, new byte[5]);
        elf.section(0x01000011, 0, 3, new byte[5]);
        due("TYPE is read whole", elf.build(), 0);
        LinkHouse x = Bench.house(elf);
        Bench.due("one kept section of its group", x.sum(0, 0, 0), 2);
        int table = elf.symbolsSection();
        due("LINK is read whole", withByte(elf.build(), Elf.rowOf(elf.build(), table) + 43), 5);
    }

    private static void exactEnds() {
        Elf noted = Elf.program();
        int n = noted.section(7, 0, 1, new byte[2]);
        byte[] good = noted.build();
        int rest = good.length - Elf.placeOf(good, n);
        due("bytes up to the last one", Elf.withRow(good, n, Elf.SIZE, rest), 0);
        due("bytes one too far", Elf.withRow(good, n, Elf.SIZE, rest + 1), 3);
        byte[] one = Elf.withRow(good, n, Elf.SIZE, 1);
        due("one byte, the last one", Elf.withRow(one, n, Elf.PLACE, good.length - 1), 0);
        due("one byte behind it", Elf.withRow(one, n, Elf.PLACE, good.length), 3);
        byte[] wrapped = Elf.withRow(good, n, Elf.PLACE, 8);
        due("PLACE and SIZE wrap around", Elf.withRow(wrapped, n, Elf.SIZE, -4), 3);
        wrapped = Elf.withRow(good, n, Elf.PLACE, -4);
        due("from above all to the first", Elf.withRow(wrapped, n, Elf.SIZE, 8), 3);
        Elf elf = Elf.program();
        byte[] built = elf.build();
        int table = elf.symbolsSection();
        due("LINK of the symbols is S", Elf.withRow(built, table, Elf.LINK, elf.count()), 5);
        due("LINK of the symbols is 0", Elf.withRow(built, table, Elf.LINK, 0), 5);
        due("LINK of the symbols is itself", Elf.withRow(built, table, Elf.LINK, table), 5);
        due("SIZE of the symbols is 24", Elf.withRow(built, table, Elf.SIZE, 24), 0);
        due("SIZE of the symbols is 25", Elf.withRow(built, table, Elf.SIZE, 25), 5);
        byte[] joined = Bench.with(built, 40, 8, built.length - 64L * elf.count());
        due("rows up to the last byte", joined, 0);
        due("one byte less", Arrays.copyOf(joined, joined.length - 1), 2);
    }

    /** An object with some of everything. */
    private static byte[] rich() {
        Elf elf = new Elf();
        int text = elf.text(0x48, 0x8b, 5, 0, 0, 0, 0, 0, 0, 0, 0, 0, 0, 0, 0, 0, 0, 0, 0, 0);
        int data = elf.data(1, 2, 3);
        elf.strings("ab\0b\0");
        elf.section(1, Elf.THREADS, 8, Bench.bytes(4));
        elf.section(7, 0, 1, Bench.bytes(5));
        int start = elf.global("_start", text, 0);
        int local = elf.local(3, 3, 0);
        int weak = elf.weak("weak", 0, 0);
        int common = elf.common("common", 8, 8);
        int threads = elf.symbol("threads", Elf.GLOBAL, 6, 4, 0, 1);
        elf.symbol("", Elf.LOCAL, 0, 5, 7, 0);
        int sites = elf.sites(text);
        elf.site(sites, 3, 41, common, -4).site(sites, 7, 10, local, 3)
                .site(sites, 11, 9, weak, -4).site(sites, 15, 22, threads, -4);
        elf.group(start, 1, data);
        return elf.build();
    }

    /** The same object; all bytes that the document does not tell of are 255. */
    private static byte[] filled(byte[] object) {
        byte[] b = object.clone();
        fill(b, 7, 16);
        fill(b, 24, 40);
        fill(b, 48, 52);
        fill(b, 54, 58);
        fill(b, 62, 64);
        for (int i = 0; i < Bench.num(b, 60, 2); i++) {
            int row = Elf.rowOf(b, i);
            int type = (int) Bench.num(b, row + Elf.TYPE, 4);
            fill(b, row, row + 4);
            fill(b, row + 16, row + 24);
            fill(b, row + 56, row + 64);
            if (type != 1) {
                fill(b, row + Elf.FLAGS, row + 16);
                fill(b, row + Elf.ALIGN, row + 56);
            }
            if (type == 0) {
                fill(b, row + Elf.PLACE, row + 64);
            }
            if (type == 1 || type == 3) {
                fill(b, row + Elf.LINK, row + Elf.ALIGN);
            }
            if (type == 2) {
                fill(b, row + Elf.INFO, row + Elf.ALIGN);
                fillSymbols(b, Elf.placeOf(b, i), (int) Bench.num(b, row + Elf.SIZE, 8));
            }
        }
        return b;
    }

    /** The first symbol, byte 5 of each, and NAME of local ones. */
    private static void fillSymbols(byte[] b, int from, int size) {
        fill(b, from, from + 24);
        for (int at = from + 24; at < from + size; at += 24) {
            fill(b, at + 5, at + 6);
            if (b[at + 4] >> 4 == 0) {
                fill(b, at, at + 4);
            }
        }
    }

    private static void fill(byte[] b, int from, int to) {
        Arrays.fill(b, from, to, (byte) 0xff);
    }

    private static void bytesThatAreFree() {
        LinkHouse x = new LinkHouse();
        LinkHouse y = new LinkHouse();
        Bench.due("add", Bench.add(x, rich()), 0);
        Bench.due("add", Bench.add(y, filled(rich())), 0);
        Bench.due("link", x.link(false), 0);
        Bench.due("link", y.link(false), 0);
        Bench.due("the same file", Bench.out(y), Bench.out(x));
        Bench.due("slots", y.look(12), 2);
        Bench.due("pool", y.look(14), 3);
        Bench.due("map", y.map(), x.map());
        Bench.due("the same map", Bench.outText(y), Bench.outText(x));
        Bench.due("list", y.list(0, 0), x.list(0, 0));
        Bench.due("the same list", Bench.outText(y), Bench.outText(x));
        Bench.due("merge", x.merge(), 0);
        Bench.due("merge", y.merge(), 0);
        Bench.due("the same object", Bench.out(y), Bench.out(x));
        Bench.due("link", x.link(true), 0);
        Bench.due("link", y.link(true), 0);
        Bench.due("the same file with REACHED", Bench.out(y), Bench.out(x));
        LinkHouse z = new LinkHouse();
        Bench.due("add", Bench.add(z, filled(Elf.program().build())), 0);
        Bench.due("add", Bench.add(z, filled(Elf.program().build())), 0);
        Bench.due("a double", z.link(false), 1);
    }

    /** What lies behind row S - 1 is no section, whatever it says. */
    private static void rowsBehindTheLast() {
        byte[] good = Elf.program().build();
        byte[] junk = new byte[64];
        Arrays.fill(junk, (byte) 0xff);
        due("bytes behind the rows", Bench.join(good, junk), 0);
        for (long type : new long[] {1, 2, 4, 8, 17}) {
            Elf elf = Elf.program();
            elf.symbolsSection();
            int hidden = elf.section(type, Elf.TEXT, 3, new byte[5]);
            byte[] built = Elf.withRow(elf.build(), hidden, Elf.INFO, 1);
            byte[] fewer = Bench.with(built, 60, 2, hidden);
            due("a row of type " + type + " behind the last one", fewer, 0);
            LinkHouse x = new LinkHouse();
            Bench.add(x, fewer);
            Bench.due("one kept section", x.sum(0, 0, 0), 2);
            Bench.due("link", x.link(false), 0);
            Bench.due("one kept section", x.look(6), 1);
        }
        hiddenSites();
        hiddenGroup();
        hiddenNames();
    }

    /** Sites in a row behind the last one fill nothing, reach nothing and merge nothing. */
    private static void hiddenSites() {
        Elf elf = new Elf();
        int text = elf.text(new int[16]);
        int strings = elf.strings("abc\0");
        int data = elf.data(1);
        elf.global("_start", text, 0);
        int local = elf.local(0, data, 0);
        elf.symbolsSection();
        int sites = elf.sites(text);
        elf.site(sites, 0, 9, local, 0).site(sites, 8, 1, local, 0);
        byte[] built = elf.build();
        byte[] fewer = Bench.with(built, 60, 2, sites);
        LinkHouse x = new LinkHouse();
        Bench.due("sites behind the last row", Bench.add(x, fewer), 0);
        Bench.due("link", x.link(false), 0);
        Bench.due("no slot", x.look(12), 0);
        Bench.due("nothing is filled", x.out((int) x.out(64 + 8) + 8), 0);
        Bench.due("merge", x.merge(), 0);
        byte[] merged = Bench.out(x);
        Bench.due("they are not merged", Bench.num(merged, 60, 2), 6);
        Bench.due("nor their rows", merged.length, Elf.rowOf(merged, 6));
        Bench.due("link", x.link(true), 0);
        Bench.due("nothing is reached", x.look(6), 1);
        x.drop();
        Bench.due("add", Bench.add(x, Elf.withRow(fewer, sites, Elf.INFO, strings)), 0);
        Bench.due("link", x.link(false), 0);
        Bench.due("strings without sites", x.look(14), 4);
    }

    private static void hiddenNames() {
        Elf elf = Elf.program();
        int table = elf.symbolsSection();
        int hidden = elf.section(3, 0, 1, Bench.latin("\0_start\0"));
        byte[] built = Elf.withRow(elf.build(), table, Elf.LINK, hidden);
        due("names in a row", built, 0);
        due("names behind the last row", Bench.with(built, 60, 2, hidden), 5);
    }

    private static void hiddenGroup() {
        Elf elf = Elf.program();
        int data = elf.data(1);
        int sign = elf.weak("sign", Elf.FIXED, 0);
        elf.group(sign, 1);
        elf.symbolsSection();
        int group = elf.group(sign, 1, data);
        LinkHouse x = Bench.house(elf);
        Bench.due("link", x.link(false), 0);
        Bench.due("a group in a row", x.look(13), 1);
        x.drop();
        Bench.due("add", Bench.add(x, Bench.with(elf.build(), 60, 2, group)), 0);
        Bench.due("link", x.link(false), 0);
        Bench.due("a group behind the last row", x.look(13), 0);
        Bench.due("kept sections", x.look(6), 2);
    }

    private static void wholeSymbols() {
        Elf elf = new Elf();
        int text = elf.text(1, 2);
        elf.common("com", 8, 4);
        elf.global("abc", text, 0);
        byte[] good = elf.build();
        int at = Elf.placeOf(good, elf.symbolsSection());
        int common = at + 24;
        int other = at + 48;
        due("good", good, 0);
        due("NAME, its highest byte", withByte(good, other + 3), 6);
        due("NAME, its third byte", withByte(good, other + 2), 6);
        due("the byte at 5 is free", withByte(good, other + 5), 0);
        due("WHERE, its second byte", withByte(good, other + 7), 6);
        due("WHERE is S", Bench.with(good, other + 6, 2, elf.count()), 6);
        due("VALUE of one in a section is free", Bench.with(good, other + 8, 8, -1), 0);
        due("SIZE of one in a section is free", Bench.with(good, other + 16, 8, -1), 0);
        for (int k = 2; k < 8; k++) {
            due("VALUE of a common one, byte " + k, withByte(good, common + 8 + k), 6);
            due("SIZE of a common one, byte " + k, withByte(good, common + 16 + k), 6);
        }
        due("VALUE 8192 of a common one", Bench.with(good, common + 8, 8, 8192), 6);
        due("a 0 as the names' last byte alone", Elf.withRow(good, elf.symbolsSection() + 1,
                Elf.SIZE, 1), 6);
    }

    private static void wholeSites() {
        Elf elf = new Elf();
        int text = elf.text(new int[12]);
        int sites = elf.sites(text);
        elf.site(sites, 8, 2, 0, 0);
        byte[] good = elf.build();
        int at = Elf.placeOf(good, sites);
        due("good", good, 0);
        for (int k = 1; k < 8; k++) {
            due("PLACE, byte " + k, withByte(good, at + k), 7);
        }
        for (int k = 1; k < 4; k++) {
            due("HOW, byte " + k, withByte(good, at + 8 + k), 7);
            due("the symbol's number, byte " + k, withByte(good, at + 12 + k), 7);
            byte[] odd = Elf.withRow(good, sites, Elf.SIZE, 23);
            due("INFO, byte " + k, withByte(odd, Elf.rowOf(odd, sites) + Elf.INFO + k), 0);
            due("LINK, byte " + k, withByte(good, Elf.rowOf(good, sites) + Elf.LINK + k), 7);
        }
        due("A is free", Bench.with(good, at + 16, 8, -1), 0);
        due("PLACE wraps around", Bench.with(good, at, 8, -2), 7);
        due("PLACE is SIZE", Bench.with(good, at, 8, 12), 7);
        due("INFO is S", Elf.withRow(Elf.withRow(good, sites, Elf.SIZE, 23), sites, Elf.INFO,
                elf.count()), 0);
        due("INFO is 0", Elf.withRow(Elf.withRow(good, sites, Elf.SIZE, 23), sites, Elf.INFO, 0),
                0);
        due("25 bytes", Elf.withRow(good, sites, Elf.SIZE, 25), 7);
        due("no sites", Elf.withRow(good, sites, Elf.SIZE, 0), 0);
        due("no sites, and another LINK", Elf.withRow(Elf.withRow(good, sites, Elf.SIZE, 0), sites,
                Elf.LINK, sites), 7);
    }

    private static void wholeGroups() {
        Elf elf = new Elf();
        int text = elf.text(1);
        int sign = elf.global("sign", text, 0);
        int group = elf.group(sign, 1, text);
        byte[] good = elf.build();
        int at = Elf.placeOf(good, group);
        due("good", good, 0);
        for (int k = 1; k < 4; k++) {
            due("FLAGS, byte " + k, withByte(good, at + k), 9);
            due("a number, byte " + k, withByte(good, at + 4 + k), 9);
            due("INFO, byte " + k, withByte(good, Elf.rowOf(good, group) + Elf.INFO + k), 9);
        }
        due("one number less", Elf.withRow(good, group, Elf.SIZE, 4), 0);
        due("three bytes", Elf.withRow(good, group, Elf.SIZE, 3), 9);
        due("a group may have itself", Bench.with(good, at + 4, 4, group), 0);
        due("the last section", Bench.with(good, at + 4, 4, elf.count() - 1), 0);
        due("S", Bench.with(good, at + 4, 4, elf.count()), 9);
        byte[] row = good.clone();
        int first = Elf.placeOf(good, elf.symbolsSection());
        System.arraycopy(good, first + 24, row, first, 24);
        due("INFO 0 is no one's, whatever row 0 is", Elf.withRow(row, group, Elf.INFO, 0), 9);
    }

    /** Each target has sites of its own: the same bytes of another one are free. */
    private static void targets() {
        Elf elf = new Elf();
        for (int k = 0; k < 10; k++) {
            int text = elf.text(new int[4]);
            elf.site(elf.sites(text), 0, 2, 0, 0);
        }
        due("ten targets", elf.build(), 0);
        int last = elf.sites(19);
        elf.site(last, 0, 2, 0, 0);
        due("the tenth one twice", elf.build(), 7);
        Elf none = new Elf();
        int text = none.text(new int[4]);
        int sites = none.sites(text);
        none.site(sites, 0, 0, 0, 0).site(sites, 0, 2, 0, 0).site(sites, 2, 0, 0, 0);
        due("how 0 has no bytes", none.build(), 0);
        Elf wide = new Elf();
        int data = wide.data(new int[12]);
        int of = wide.sites(data);
        wide.site(of, 0, 1, 0, 0).site(of, 8, 2, 0, 0);
        due("8 bytes, then 4", wide.build(), 0);
        wide.site(of, 7, 0, 0, 0);
        due("and how 0 on them", wide.build(), 0);
        Elf over = new Elf();
        data = over.data(new int[12]);
        of = over.sites(data);
        over.site(of, 8, 2, 0, 0).site(of, 1, 18, 0, 0);
        due("the last of 8 bytes is taken", over.build(), 7);
    }

    private static void manySites() {
        Elf elf = Elf.program();
        int text = elf.text(new int[120]);
        int sites = elf.sites(text);
        for (int k = 0; k < 30; k++) {
            elf.site(sites, 4 * k, 11, 0, k);
        }
        LinkHouse x = Bench.house(elf);
        Bench.due("30 sites", x.link(false), 0);
        for (int k = 0; k < 30; k++) {
            Bench.due("site " + k, (int) x.out(0x82 + 4 * k), k);
        }
        Bench.due("merge", x.merge(), 0);
        byte[] merged = Bench.out(x);
        Bench.due("their bytes", Bench.num(merged, Elf.rowOf(merged, 3) + Elf.SIZE, 8), 720);
    }

    /** Of the first symbol nothing is looked at, and it counts as a local one. */
    private static void firstSymbolsRow() {
        Elf elf = Elf.program();
        int text = elf.text(new int[8]);
        elf.global("other", Elf.FIXED, 77);
        elf.site(elf.sites(text), 0, 1, 0, 3);
        byte[] good = elf.build();
        int at = Elf.placeOf(good, elf.symbolsSection());
        byte[] odd = good.clone();
        System.arraycopy(good, at + 48, odd, at, 24);
        Bench.set(odd, at, 4, 2);
        LinkHouse x = new LinkHouse();
        Bench.due("add", Bench.add(x, odd), 0);
        Bench.due("link", x.link(false), 0);
        Bench.due("names", x.look(8), 2);
        Bench.due("its address is 0", x.out(0x82), 3);
        Bench.due("no name of it", Bench.address(x, "start"), -1);
    }

    /** What an object had in a place is forgotten when another one comes there. */
    private static void anotherInItsPlace() {
        Elf first = Elf.program();
        first.strings("abc\0");
        LinkHouse x = Bench.house(first);
        x.link(false);
        Bench.due("a pool", x.look(14), 4);
        x.drop();
        Elf none = new Elf();
        none.text(1, 2);
        none.section(1, Elf.ALLOC, 4, Bench.latin("ab\0\0"));
        byte[] bare = none.build();
        bare = Elf.withRow(bare, none.symbolsSection(), Elf.TYPE, 7);
        Bench.due("an object without symbols", Bench.add(x, bare), 0);
        Bench.due("no list", x.list(0, 0), 0);
        Bench.give(x, "_start", 1);
        Bench.due("link", x.link(false), 0);
        Bench.due("no pool", x.look(14), 0);
        Bench.due("one name", x.look(8), 1);
        Bench.due("two kept sections", x.look(6), 2);
        Bench.due("pack", x.pack(), 132 + bare.length + bare.length % 2);
        x.drop();
        Elf program = Elf.program();
        Bench.due("add", Bench.add(x, program), 0);
        Bench.due("its list", x.list(0, 0), 26);
        x.drop();
        bare = Elf.withRow(program.build(), program.symbolsSection(), Elf.TYPE, 7);
        Bench.due("the same bytes without symbols", Bench.add(x, bare), 0);
        Bench.due("no list", x.list(0, 0), 0);
        Bench.due("link", x.link(false), 0);
        byte[] bad = Bench.with(Elf.program().build(), 60, 2, 0);
        Bench.due("a bad one", Bench.add(x, bad), 2);
        Bench.due("is no file", x.look(0), 1);
        Bench.due("link", x.link(false), 0);
        Bench.due("and not taken", x.look(5), 1);
    }

    private static void powers() {
        for (int k = 0; k <= 13; k++) {
            Elf elf = new Elf();
            elf.section(1, Elf.TEXT, 1L << k, new byte[1]);
            due("ALIGN 2^" + k, elf.build(), k <= 12 ? 0 : 4);
            Elf common = new Elf();
            common.common("c", 1L << k, 1);
            due("VALUE 2^" + k, common.build(), k <= 12 ? 0 : 6);
        }
        for (long size : new long[] {0, 1, 16383, 16384, 16385, 1L << 32, 1L << 63}) {
            Elf elf = new Elf();
            elf.zeros(Elf.DATA, 1, size);
            due("SIZE " + size, elf.build(), size >= 0 && size <= 16384 ? 0 : 4);
            Elf common = new Elf();
            common.common("c", 1, size);
            due("a common one's SIZE " + size, common.build(),
                    size >= 0 && size <= 16384 ? 0 : 6);
        }
    }
}
