import java.util.Arrays;

/** Promise 3: an object's errors, the first that holds, with their edges. */
final class ObjectErrorsTest {
    public static void main(String[] args) {
        heads();
        rows();
        sections();
        order();
        symbolTables();
        symbols();
        names();
        commons();
        sites();
        siteBytes();
        groups();
        firstSymbol();
        Bench.end();
    }

    private static void due(String what, byte[] object, int want) {
        Bench.due(what, Bench.add(new LinkHouse(), object), want);
    }

    private static void heads() {
        byte[] good = Elf.program().build();
        due("a good one", good, 0);
        due("63 bytes", Arrays.copyOf(good, 63), 1);
        for (int k = 0; k < 7; k++) {
            due("byte " + k, Bench.with(good, k, 1, 0xff), 1);
        }
        due("bytes 7 to 15 are free", Bench.with(good, 8, 8, -1), 0);
        due("at 16", Bench.with(good, 16, 2, 2), 1);
        due("at 18", Bench.with(good, 18, 2, 3), 1);
        due("at 20", Bench.with(good, 20, 4, 0x10001), 1);
        due("at 24 is free", Bench.with(good, 24, 8, -1), 0);
        due("at 52", Bench.with(good, 52, 2, 63), 1);
        due("at 58", Bench.with(good, 58, 2, 65), 1);
        due("at 62 is free", Bench.with(good, 62, 2, 99), 0);
        due("1 comes before 2", Bench.with(Bench.with(good, 60, 2, 0), 58, 2, 0), 1);
    }

    private static void rows() {
        byte[] good = Elf.program().build();
        int rows = (int) Bench.num(good, 40, 8);
        due("no section", Bench.with(good, 60, 2, 0), 2);
        due("25 sections", Bench.with(Arrays.copyOf(good, 4000), 60, 2, 25), 2);
        due("rows behind the end", Bench.with(good, 40, 8, rows + 1), 2);
        due("rows far away", Bench.with(good, 40, 8, -64), 2);
        due("rows farther than all", Bench.with(good, 40, 8, Long.MIN_VALUE), 2);
        due("section 0 has a type", Elf.withRow(good, 0, Elf.TYPE, 1), 2);
        byte[] alone = Arrays.copyOf(good, 128);
        Bench.set(alone, 40, 8, 64);
        Bench.set(alone, 60, 2, 1);
        Arrays.fill(alone, 64, 128, (byte) 0);
        due("section 0 alone", alone, 0);
        Elf full = new Elf();
        while (full.count() < 22) {
            full.text();
        }
        due("24 sections", full.build(), 0);
    }

    private static void sections() {
        byte[] good = Elf.program().build();
        due("bytes reach behind the end", Elf.withRow(good, 1, Elf.SIZE, good.length), 3);
        due("SIZE above all", Elf.withRow(good, 1, Elf.SIZE, -1), 3);
        due("PLACE above all", Elf.withRow(good, 1, Elf.PLACE, -1), 3);
        byte[] empty = Elf.withRow(good, 1, Elf.SIZE, 0);
        due("none at the end", Elf.withRow(empty, 1, Elf.PLACE, good.length), 0);
        due("none behind the end", Elf.withRow(empty, 1, Elf.PLACE, good.length + 1), 3);
        due("type 0 is not asked",
                Elf.withRow(Elf.withRow(good, 0, Elf.SIZE, -1), 0, Elf.PLACE, -1), 0);
        Elf elf = Elf.program();
        int zeros = elf.zeros(Elf.DATA, 1, 16384);
        byte[] sized = elf.build();
        due("16384 zeros", sized, 0);
        due("of type 8 PLACE is not asked", Elf.withRow(sized, zeros, Elf.PLACE, -1), 0);
        due("16385 zeros", Elf.withRow(sized, zeros, Elf.SIZE, 16385), 4);
        due("SIZE with the highest bit", Elf.withRow(sized, zeros, Elf.SIZE, Long.MIN_VALUE), 4);
        byte[] unkept = Elf.withRow(Elf.withRow(sized, zeros, Elf.SIZE, -1), zeros, Elf.ALIGN, 3);
        due("not kept: not asked", Elf.withRow(unkept, zeros, Elf.FLAGS, 1), 0);
        for (long align : new long[] {0, 1, 2, 2048, 4096}) {
            due("ALIGN " + align, Elf.withRow(good, 1, Elf.ALIGN, align), 0);
        }
        for (long align : new long[] {3, 8192, -1, Long.MIN_VALUE, 4097, 1L << 32}) {
            due("ALIGN " + align, Elf.withRow(good, 1, Elf.ALIGN, align), 4);
        }
    }

    private static void order() {
        Elf elf = Elf.program();
        int second = elf.text(1, 2, 3);
        byte[] good = elf.build();
        byte[] both = Elf.withRow(Elf.withRow(good, 1, Elf.ALIGN, 3), second, Elf.SIZE, -1);
        due("4 of the first before 3 of the second", both, 4);
        both = Elf.withRow(Elf.withRow(good, 1, Elf.SIZE, -1), second, Elf.ALIGN, 3);
        due("3 of the first before 4 of the second", both, 3);
        due("3 before 4 of one",
                Elf.withRow(Elf.withRow(good, 1, Elf.SIZE, -1), 1, Elf.ALIGN, 3), 3);
        due("4 before 5", Elf.withRow(Elf.withRow(good, 1, Elf.ALIGN, 3), second, Elf.TYPE, 2), 4);
    }

    private static void symbolTables() {
        Elf elf = Elf.program();
        int other = elf.section(3, 0, 1, new byte[48]);
        byte[] good = elf.build();
        int table = elf.symbolsSection();
        due("a good one", good, 0);
        due("two tables", Elf.withRow(good, other, Elf.TYPE, 2), 5);
        due("SIZE is no multiple of 24", Elf.withRow(good, table, Elf.SIZE, 47), 5);
        due("LINK is no section", Elf.withRow(good, table, Elf.LINK, 99), 5);
        due("LINK is a section of another type", Elf.withRow(good, table, Elf.LINK, 1), 5);
        due("no symbols at all", Elf.withRow(good, table, Elf.SIZE, 0), 0);
        due("no table", Elf.withRow(good, table, Elf.TYPE, 7), 0);
        Elf many = new Elf();
        for (int k = 1; k < 64; k++) {
            many.local(0, 0, 0);
        }
        due("64 symbols", many.build(), 0);
        many.local(0, 0, 0);
        due("65 symbols", many.build(), 5);
    }

    private static byte[] oneSymbol(int bind, int where) {
        Elf elf = new Elf();
        elf.text(1, 2);
        elf.section(1, 0, 1, new byte[2]);
        elf.symbol("name", bind, 0, where, 1, 0);
        return elf.build();
    }

    private static void symbols() {
        due("BIND 3", oneSymbol(3, 1), 6);
        due("BIND 15", oneSymbol(15, 0), 6);
        for (int bind = 0; bind <= 2; bind++) {
            due("undefined", oneSymbol(bind, 0), 0);
            due("fixed", oneSymbol(bind, Elf.FIXED), 0);
            due("in a kept section", oneSymbol(bind, 1), 0);
            due("in a section that is not kept", oneSymbol(bind, 2), bind == 0 ? 0 : 6);
            due("in the names", oneSymbol(bind, 4), bind == 0 ? 0 : 6);
            due("in no section", oneSymbol(bind, 5), 6);
            due("WHERE 0xfff0", oneSymbol(bind, 0xfff0), 6);
            due("WHERE 0xfff3", oneSymbol(bind, 0xfff3), 6);
            due("common", oneSymbol(bind, Elf.COMMON), bind == 0 ? 6 : 0);
        }
    }

    private static byte[] namedSymbol(String name, int bind) {
        Elf elf = new Elf();
        elf.text(1, 2);
        elf.symbol(name, bind, 0, 1, 0, 0);
        return elf.build();
    }

    private static void names() {
        due("1 byte", namedSymbol("a", 1), 0);
        due("20 bytes", namedSymbol("a2345678901234567890", 2), 0);
        due("21 bytes", namedSymbol("a23456789012345678901", 1), 6);
        due("no byte", namedSymbol("", 1), 6);
        byte[] good = namedSymbol("abc", 1);
        int table = 2;
        int row = Elf.placeOf(good, table) + 24;
        due("begins behind the section", Bench.with(good, row, 4, 5), 6);
        due("begins far behind", Bench.with(good, row, 4, -1), 6);
        due("begins at the last byte", Bench.with(good, row, 4, 4), 6);
        due("an end of a name is one", Bench.with(good, row, 4, 3), 0);
        due("no 0 there", Elf.withRow(good, table + 1, Elf.SIZE, 4), 6);
        byte[] local = Bench.with(namedSymbol("abc", 1), row + 4, 1, 0);
        due("a local one's name is not looked at", Bench.with(local, row, 4, -1), 0);
    }

    private static byte[] oneCommon(long align, long size) {
        Elf elf = new Elf();
        elf.common("c", align, size);
        return elf.build();
    }

    private static void commons() {
        due("good", oneCommon(1, 0), 0);
        due("good", oneCommon(4096, 16384), 0);
        for (long align : new long[] {0, 3, 8192, -1}) {
            due("VALUE " + align, oneCommon(align, 4), 6);
        }
        due("SIZE 16385", oneCommon(4, 16385), 6);
        due("SIZE above all", oneCommon(4, -1), 6);
    }

    private static byte[] oneSite(int how, long place, long symbol) {
        Elf elf = new Elf();
        int text = elf.text(0, 0, 0, 0, 0, 0, 0, 0, 0, 0);
        elf.local(0, 0, 0);
        elf.site(elf.sites(text), place, how, (int) symbol, 0);
        return elf.build();
    }

    private static void sites() {
        for (int how = 0; how < 64; how++) {
            boolean wide = how == 1 || how == 18;
            boolean told = how == 0 || how == 2 || how == 4 || how == 9 || how == 10 || how == 11
                    || how == 22 || how == 23 || how == 41 || how == 42;
            due("how " + how, oneSite(how, 0, 0), wide || told ? 0 : 7);
            int last = wide ? 2 : 6;
            if (wide || told) {
                due("how " + how + " at the end", oneSite(how, last, 1), 0);
                due("how " + how + " beyond", oneSite(how, last + 1, 1), how == 0 ? 0 : 7);
                due("how " + how + " far away", oneSite(how, -1, 1), how == 0 ? 0 : 7);
            }
        }
        due("how above all", oneSite(-1, 0, 0), 7);
        due("no such symbol", oneSite(2, 0, 2), 7);
        due("no such symbol, of how 0", oneSite(0, 0, 2), 7);
        due("a symbol above all", oneSite(2, 0, -1), 7);
        byte[] good = oneSite(2, 0, 0);
        due("SIZE is no multiple of 24", Elf.withRow(good, 2, Elf.SIZE, 23), 7);
        due("LINK is not the symbols'", Elf.withRow(good, 2, Elf.LINK, 1), 7);
        due("INFO is no kept section",
                Elf.withRow(Elf.withRow(good, 2, Elf.LINK, 1), 2, Elf.INFO, 2), 0);
        due("INFO is no section",
                Elf.withRow(Elf.withRow(good, 2, Elf.SIZE, 23), 2, Elf.INFO, 77), 0);
        due("no symbols at all", Elf.withRow(good, 3, Elf.SIZE, 0), 7);
        due("no symbols' section",
                Elf.withRow(Elf.withRow(good, 3, Elf.TYPE, 7), 2, Elf.SIZE, 0), 7);
        due("6 before 7", Bench.with(Elf.withRow(good, 2, Elf.LINK, 1), Elf.placeOf(good, 3) + 28,
                1, 0x30), 6);
    }

    private static void siteBytes() {
        Elf elf = new Elf();
        int zeros = elf.zeros(Elf.DATA, 1, 16);
        int first = elf.sites(zeros);
        elf.site(first, 0, 0, 0, 0);
        due("how 0 in a target of type 8", elf.build(), 0);
        elf.site(first, 0, 2, 0, 0);
        due("how 2 in a target of type 8", elf.build(), 7);
        due("one byte of an earlier site's", twoSites(0, 3, false), 7);
        due("one behind the other", twoSites(0, 4, false), 0);
        due("one ahead of the other", twoSites(4, 0, false), 0);
        due("of another section of sites", twoSites(4, 1, true), 7);
        due("of another target", twoTargets(), 0);
    }

    private static byte[] twoSites(int a, int b, boolean apart) {
        Elf elf = new Elf();
        int text = elf.text(0, 0, 0, 0, 0, 0, 0, 0, 0, 0);
        int first = elf.sites(text);
        int second = apart ? elf.sites(text) : first;
        elf.site(first, 9, 0, 0, 0).site(first, a, 4, 0, 0).site(second, b, 2, 0, 0);
        return elf.build();
    }

    private static byte[] twoTargets() {
        Elf elf = new Elf();
        int text = elf.text(0, 0, 0, 0);
        int data = elf.data(0, 0, 0, 0);
        elf.site(elf.sites(text), 0, 4, 0, 0).site(elf.sites(data), 0, 4, 0, 0);
        return elf.build();
    }

    private static byte[] oneGroup(int symbol, int flags, int... numbers) {
        Elf elf = new Elf();
        elf.text(1);
        elf.text(2);
        elf.local(0, 1, 0);
        elf.global("sign", 1, 0);
        elf.group(symbol, flags, numbers);
        return elf.build();
    }

    private static void groups() {
        byte[] good = oneGroup(2, 1, 1, 2);
        due("good", good, 0);
        due("good", oneGroup(2, 0), 0);
        due("numbers up to the last section", oneGroup(2, 1, 5, 3), 0);
        due("SIZE 0", Elf.withRow(good, 3, Elf.SIZE, 0), 9);
        due("SIZE 6", Elf.withRow(good, 3, Elf.SIZE, 6), 9);
        due("LINK is not the symbols'", Elf.withRow(good, 3, Elf.LINK, 5), 9);
        due("INFO 0", oneGroup(0, 1, 1), 9);
        due("INFO a local one", oneGroup(1, 1, 1), 9);
        due("INFO no symbol", oneGroup(3, 1, 1), 9);
        due("INFO above all", oneGroup(-1, 1, 1), 9);
        due("FLAGS 2", oneGroup(2, 2, 1), 9);
        due("FLAGS above all", oneGroup(2, -1, 1), 9);
        due("number 0", oneGroup(2, 1, 0), 9);
        due("number S", oneGroup(2, 1, 6), 9);
        due("number above all", oneGroup(2, 1, -1), 9);
        due("twice in one", oneGroup(2, 1, 1, 1), 9);
        Elf elf = new Elf();
        int text = elf.text(1);
        int sign = elf.global("sign", text, 0);
        elf.group(sign, 0, text);
        elf.group(sign, 1, text);
        due("in two", elf.build(), 9);
        elf.site(elf.sites(text), 0, 2, 0, 0);
        due("7 before 9", elf.build(), 7);
        due("no symbols' section", Elf.withRow(good, 4, Elf.TYPE, 7), 9);
    }

    private static void firstSymbol() {
        byte[] good = Elf.program().build();
        int at = Elf.placeOf(good, 2);
        byte[] odd = good.clone();
        Arrays.fill(odd, at, at + 24, (byte) 0xee);
        due("of the first symbol nothing is looked at", odd, 0);
    }
}
