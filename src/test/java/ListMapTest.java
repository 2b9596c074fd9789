import java.util.NoSuchElementException;

/** Promises 13 list, 14 sum and 15 map. */
final class ListMapTest {
    public static void main(String[] args) {
        list();
        sum();
        members();
        map();
        mapStays();
        symbolZero();
        Bench.end();
    }

    private static Elf all() {
        Elf elf = new Elf();
        int text = elf.text(1, 2);
        int constants = elf.readOnly(1, 2, 3);
        int data = elf.data(1, 2, 3, 4);
        int zeros = elf.zeros(Elf.DATA, 1, 500);
        int vars = elf.section(1, Elf.THREADS, 1, new byte[6]);
        int varZeros = elf.zeros(Elf.THREADS, 1, 70);
        elf.section(1, 0, 1, new byte[8]);
        elf.text(1, 2, 3, 4, 5);
        elf.local(0, text, 0);
        elf.global("_start", text, 1);
        elf.global("r", constants, 0xabcdef);
        elf.global("d", data, -1);
        elf.global("b", zeros, 0);
        elf.global("td", vars, 0);
        elf.global("tb", varZeros, 0);
        elf.undefined("u");
        elf.weak("w", 0, 5);
        elf.weak("W", text, 2);
        elf.weak("wa", Elf.FIXED, 3);
        elf.global("A", Elf.FIXED, 4);
        elf.common("C", 16, 3);
        elf.symbol("wc", Elf.WEAK, 0, Elf.COMMON, 8, 1);
        return elf;
    }

    private static void list() {
        LinkHouse x = Bench.house(all());
        String want = "0000000000000001 T _start\n" + "0000000000abcdef R r\n"
                + "ffffffffffffffff D d\n" + "0000000000000000 B b\n" + "0000000000000000 D td\n"
                + "0000000000000000 B tb\n" + "                 U u\n" + "                 w w\n"
                + "0000000000000002 W W\n" + "0000000000000003 W wa\n" + "0000000000000004 A A\n"
                + "0000000000000010 C C\n" + "0000000000000008 C wc\n";
        Bench.due("list", x.list(0, 0), want.length());
        Bench.due("OUT", Bench.outText(x), want);
        for (int[] at : new int[][] {{-1, 0}, {1, 0}, {0, 1}, {0, -1}}) {
            Bench.dueThrow("list", NoSuchElementException.class, () -> x.list(at[0], at[1]));
        }
        Bench.due("OUT stays", x.look(2), want.length());
        LinkHouse y = Bench.house(new Elf());
        Bench.due("an empty list", y.list(0, 0), 0);
        Bench.due("an empty OUT", y.look(2), 0);
    }

    /** Whatever its row is, symbol 0 counts as a local one. */
    private static void symbolZero() {
        Elf elf = Elf.program();
        byte[] object = elf.build();
        int at = (int) Bench.num(object, Elf.rowOf(object, elf.symbolsSection()) + 24, 8);
        System.arraycopy(object, at + 24, object, at, 24);
        LinkHouse x = new LinkHouse();
        Bench.due("add", Bench.add(x, object), 0);
        Bench.due("list", x.list(0, 0), 26);
        Bench.due("no double", x.link(false), 0);
        Bench.due("names", x.look(8), 1);
        Bench.due("merge", x.merge(), 0);
        byte[] merged = Bench.out(x);
        Bench.due("symbols", Bench.num(merged, Elf.rowOf(merged, 2) + 32, 8), 48);
        x.pack();
        Bench.due("names packed", Bench.out(x)[8 + 60 + 3], 1);
    }

    private static void sum() {
        LinkHouse x = Bench.house(all());
        long[] want = {7, 3, 4, 500, 6, 70};
        for (int g = 0; g < 6; g++) {
            Bench.due("group " + g, x.sum(0, 0, g), want[g]);
        }
        Bench.dueThrow("group -1", NoSuchElementException.class, () -> x.sum(0, 0, -1));
        Bench.dueThrow("group 6", NoSuchElementException.class, () -> x.sum(0, 0, 6));
        Bench.dueThrow("no file", NoSuchElementException.class, () -> x.sum(1, 0, 0));
        Bench.dueThrow("no member", NoSuchElementException.class, () -> x.sum(0, 1, 0));
    }

    private static void members() {
        LinkHouse x = new LinkHouse();
        byte[] archive = Bench.archive(Bench.member("/", new byte[3]),
                Bench.member("p/", Elf.program().build()));
        Bench.due("add", Bench.add(x, archive), 0);
        Bench.due("list", x.list(0, 1), 26);
        Bench.due("sum", x.sum(0, 1, 0), 2);
        Bench.dueThrow("list of an index", NoSuchElementException.class, () -> x.list(0, 0));
        Bench.dueThrow("sum of an index", NoSuchElementException.class, () -> x.sum(0, 0, 0));
        Bench.dueThrow("list beyond", NoSuchElementException.class, () -> x.list(0, 2));
    }

    private static void map() {
        LinkHouse x = new LinkHouse();
        Bench.give(x, "given", 0xffL);
        Elf elf = Elf.program();
        elf.undefined("far");
        elf.undefined("_end");
        elf.weak("none", 0, 0);
        Bench.add(x, elf);
        Elf far = new Elf();
        far.zeros(Elf.DATA, 16, 12345);
        far.global("far", 1, 3);
        byte[] archive = Bench.archive(Bench.member("/", new byte[0]),
                Bench.member("f/", far.build()));
        Bench.add(x, archive);
        Bench.due("link", x.link(false), 0);
        String want = "00000000004000b0 2 0 0.0.1\n" + "00000000004010c0 12345 3 1.1.1\n"
                + "00000000000000ff given\n" + "00000000004000b0 _start\n"
                + "00000000004010c3 far\n";
        Bench.due("map", x.map(), want.length());
        Bench.due("OUT", Bench.outText(x), want);
    }

    private static void mapStays() {
        LinkHouse x = Bench.house(Elf.program());
        x.link(false);
        x.drop();
        Bench.add(x, all());
        x.forget();
        Bench.due("map of the latest link", x.map(), 27 + 24);
        Bench.due("OUT", Bench.outText(x).substring(27), "0000000000400080 _start\n");
        Bench.due("link", x.link(false), 2);
        Bench.dueThrow("map", IllegalStateException.class, () -> x.map());
    }
}
