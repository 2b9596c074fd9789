import java.util.Arrays;
import java.util.NoSuchElementException;

/** Promises 2, 6, 10, 11, 13, 14, 15 and 24 at their limits: what comes into OUT, and what not. */
final class OutEdgesTest {
    public static void main(String[] args) {
        bytesOfFeed();
        behindTheEnd();
        digits();
        listsAgain();
        mapsAgain();
        fullNamed();
        mergedFull();
        mergedNumbers();
        mergedAnswers();
        mergedAgain();
        packedAgain();
        refusedCalls();
        Bench.end();
    }

    /** For each n the n lowest bytes come, the lowest first. */
    private static void bytesOfFeed() {
        for (int n = 1; n <= 8; n++) {
            LinkHouse x = new LinkHouse();
            Bench.due("feed", x.feed(n, 0x8877665544332211L), n);
            Bench.due("feed", x.feed(9 - n, 0xffeeddccbbaa9912L), 9);
            x.wish();
            x.link(false);
            StringBuilder due = new StringBuilder();
            for (int k = 1; k <= n; k++) {
                due.append((char) (0x11 * k));
            }
            due.append((char) 0x12);
            for (int k = 9; k < 17 - n; k++) {
                due.append((char) (0x11 * k));
            }
            Bench.due("the bytes of feed(" + n + ")", Bench.outText(x), due.toString());
        }
    }

    /** Behind the end of OUT are 0s, also when OUT was longer before. */
    private static void behindTheEnd() {
        Elf elf = new Elf();
        int[] code = new int[64];
        Arrays.fill(code, 0xff);
        elf.global("_start", elf.text(code), 0);
        LinkHouse x = Bench.house(elf);
        x.link(false);
        long size = x.look(2);
        Bench.due("the last byte", x.out((int) size - 1), 255);
        Bench.due("the last two", x.out((int) size - 2), 0xffff);
        Bench.due("the last eight", x.out((int) size - 8), -1);
        Bench.dueThrow("behind it", NoSuchElementException.class, () -> x.out((int) size));
        Bench.wish(x, "w");
        for (int k = 0; k < 2; k++) {
            x.link(false);
            Bench.due("a shorter OUT", x.look(2), 1);
            Bench.due("0s behind it", x.out(0), 'w');
            Bench.dueThrow("out(1)", NoSuchElementException.class, () -> x.out(1));
            x.pack();
        }
        LinkHouse y = Bench.house(new Elf());
        y.link(false);
        Bench.due("an empty list", y.list(0, 0), 0);
        Bench.dueThrow("an empty OUT", NoSuchElementException.class, () -> y.out(0));
    }

    private static void digits() {
        Elf elf = new Elf();
        elf.global("_start", Elf.FIXED, 0x0123456789abcdefL);
        elf.global("high", Elf.FIXED, 0xfedcba9876543210L);
        elf.global("none", Elf.FIXED, 0);
        int[] sizes = {0, 1, 9, 10, 11, 99, 100, 101, 999, 1000, 9999, 10000, 16384};
        for (int size : sizes) {
            elf.zeros(Elf.DATA, 1, size);
        }
        LinkHouse x = Bench.house(elf);
        x.list(0, 0);
        Bench.due("digits of a list", Bench.outText(x), "0123456789abcdef A _start\n"
                + "fedcba9876543210 A high\n" + "0000000000000000 A none\n");
        Bench.due("sum", x.sum(0, 0, 3), 38713);
        Bench.due("link", x.link(false), 0);
        x.map();
        StringBuilder due = new StringBuilder();
        long at = 0x400080;
        for (int k = 0; k < sizes.length; k++) {
            due.append(String.format("%016x %d 3 0.0.%d\n", at, sizes[k], k + 1));
            at += sizes[k];
        }
        due.append("0123456789abcdef _start\nfedcba9876543210 high\n0000000000000000 none\n");
        Bench.due("digits of a map", Bench.outText(x), due.toString());
    }

    private static void listsAgain() {
        LinkHouse x = Bench.house(Elf.program());
        x.link(false);
        for (int k = 0; k < 3; k++) {
            Bench.due("list", x.list(0, 0), 26);
            Bench.due("OUT", Bench.outText(x), "0000000000000000 T _start\n");
        }
    }

    private static void mapsAgain() {
        LinkHouse x = Bench.house(Elf.program());
        x.link(false);
        for (int k = 0; k < 3; k++) {
            Bench.due("map", x.map(), 51);
            Bench.due("OUT", Bench.outText(x), "0000000000400080 2 0 0.0.1\n"
                    + "0000000000400080 _start\n");
        }
        LinkHouse y = new LinkHouse();
        Bench.give(y, "_start", 5);
        Bench.due("link", y.link(false), 0);
        Bench.due("a map without sections", y.map(), 24);
        Bench.due("OUT", Bench.outText(y), "0000000000000005 _start\n");
    }

    /** A file of text that is so many bytes long. */
    private static Elf fileOf(int bytes) {
        Elf elf = new Elf();
        elf.global("_start", elf.text(1), 0);
        for (int k = 0; k < 15; k++) {
            elf.section(1, Elf.TEXT, 4096, Bench.bytes(1));
        }
        elf.shared(Elf.TEXT, 1, 1900);
        elf.shared(Elf.TEXT, 1, bytes - 0xf001 - 1900);
        return elf;
    }

    private static void fullNamed() {
        // behind the file: 2 symbols, 8 bytes of names, 4 rows
        for (int less = 0; less < 8; less++) {
            LinkHouse x = Bench.house(fileOf(65536 - 48 - 8 - 256 - less));
            Bench.due("link", x.link(false), 0);
            Bench.due("65536 bytes", x.named(), 65536);
        }
        LinkHouse x = Bench.house(fileOf(65536 - 48 - 8 - 256));
        x.link(false);
        x.named();
        Bench.due("the last row", x.out(65536 - 64), 3L << 32);
        Bench.due("boot", x.boot(false), 0);
        Bench.due("its name", x.look(18), 1);
        Bench.due("near", x.near(x.look(10) + 1), 1);
        x = Bench.house(fileOf(65536 - 48 - 8 - 256 + 1));
        Bench.due("link", x.link(false), 0);
        long size = x.look(2);
        Bench.due("8 more", x.named(), -1);
        Bench.due("OUT stays", x.look(2), size);
        Bench.due("OUT is the file", x.out(40), 0);
        Bench.due("boot", x.boot(false), 0);
        Bench.due("pack is not refused", x.pack() > 0, true);
        Bench.due("map is not refused", x.map() > 0, true);
        x.drop();
        Bench.add(x, Elf.program());
        x.link(false);
        Bench.due("named is not refused", x.named(), 136 + 48 + 8 + 256);
    }

    private static LinkHouse houseOf(byte[] object) {
        LinkHouse x = new LinkHouse();
        Bench.due("add", Bench.add(x, object), 0);
        return x;
    }

    /** 24 sections and 64 symbols are an object still. */
    private static void mergedFull() {
        Elf elf = new Elf();
        for (int k = 0; k < 10; k++) {
            int text = elf.text(k, 0, 0, 0, 0);
            elf.site(elf.sites(text), 1, 4, 0, k);
        }
        elf.text(1, 2, 3);
        elf.global("_start", 21, 1);
        for (int k = 0; k < 62; k++) {
            elf.local(0, 2 * (k % 10) + 1, k);
        }
        byte[] object = elf.build();
        byte[] file = Bench.out(() -> linkedOf(object));
        byte[] merged = Bench.out(() -> mergedOf(object));
        Bench.due("24 sections", Bench.num(merged, 60, 2), 24);
        Bench.due("64 symbols", Bench.num(merged, Elf.rowOf(merged, 22) + Elf.SIZE, 8), 24 * 64);
        Bench.due("rows up to the end", merged.length, Elf.rowOf(merged, 24));
        Bench.due("the same file", Bench.out(() -> linkedOf(merged)), file);
        Bench.due("and the same object", Bench.out(() -> mergedOf(merged)), merged);
        LinkHouse x = houseOf(merged);
        Bench.give(x, "g", 1);
        Bench.due("65 symbols", x.merge(), -1);
        Bench.due("OUT is the file", Bench.out(x), file);
    }

    private static LinkHouse linkedOf(byte[] object) {
        LinkHouse x = houseOf(object);
        Bench.due("link", x.link(false), 0);
        return x;
    }

    private static LinkHouse mergedOf(byte[] object) {
        LinkHouse x = houseOf(object);
        Bench.due("merge", x.merge(), 0);
        return x;
    }

    private static void mergedNumbers() {
        Elf first = new Elf();
        first.section(1, 0x8000000000000006L, 0, new byte[0]);
        first.section(8, 0xff00000000000003L, 4096, new byte[0]);
        first.symbol("_start", Elf.GLOBAL, 15, Elf.FIXED, -1, -1);
        Elf second = new Elf();
        int text = second.section(1, Elf.TEXT, 64, Bench.bytes(7));
        second.symbol("", Elf.LOCAL, 15, text, Long.MIN_VALUE, Long.MIN_VALUE);
        second.symbol("weak", Elf.WEAK, 9, text, 1, Long.MIN_VALUE);
        second.site(second.sites(text), 0, 0, 1, Long.MIN_VALUE);
        LinkHouse x = Bench.house(first, second);
        Bench.due("merge", x.merge(), 0);
        byte[] o = Bench.out(x);
        Bench.due("FLAGS as they were", Bench.num(o, Elf.rowOf(o, 1) + Elf.FLAGS, 8),
                0x8000000000000006L);
        Bench.due("ALIGN 0 as it was", Bench.num(o, Elf.rowOf(o, 1) + Elf.ALIGN, 8), 0);
        Bench.due("FLAGS as they were", Bench.num(o, Elf.rowOf(o, 2) + Elf.FLAGS, 8),
                0xff00000000000003L);
        Bench.due("ALIGN as it was", Bench.num(o, Elf.rowOf(o, 2) + Elf.ALIGN, 8), 4096);
        int at = Elf.placeOf(o, 5);
        Bench.due("a local one: NAME and its byte", Bench.num(o, at + 24, 6), 15L << 32);
        Bench.due("its section's new number", Bench.num(o, at + 30, 2), 3);
        Bench.due("VALUE", Bench.num(o, at + 32, 8), Long.MIN_VALUE);
        Bench.due("SIZE", Bench.num(o, at + 40, 8), Long.MIN_VALUE);
        Bench.due("_start: BIND and KIND", Bench.num(o, at + 52, 1), 0x1f);
        Bench.due("WHERE", Bench.num(o, at + 54, 2), 0xfff1);
        Bench.due("VALUE", Bench.num(o, at + 56, 8), -1);
        Bench.due("SIZE", Bench.num(o, at + 64, 8), -1);
        Bench.due("weak: BIND and KIND", Bench.num(o, at + 76, 1), 0x29);
        Bench.due("WHERE", Bench.num(o, at + 78, 2), 3);
        Bench.due("SIZE", Bench.num(o, at + 88, 8), Long.MIN_VALUE);
        Bench.due("A of a site", Bench.num(o, Elf.placeOf(o, 4) + 16, 8), Long.MIN_VALUE);
        Bench.due("its symbol", Bench.num(o, Elf.placeOf(o, 4) + 12, 4), 1);
        Bench.due("INFO is the target's new number", Bench.num(o, Elf.rowOf(o, 4) + 44, 4), 3);
    }

    private static void mergedAnswers() {
        LinkHouse x = Bench.house(Elf.program());
        Bench.due("merge", x.merge(), 0);
        Bench.due("OUT is no executable", x.boot(false), 1);
        Bench.due("the link is done", x.look(3), 0);
        Bench.due("its sections", x.section(0, 4), 2);
        Bench.due("its addresses", Bench.address(x, "_start"), 0x400080);
        Bench.due("what it took", x.taken(0, 0), true);
        Bench.due("its file with names", x.named(), 136 + 48 + 8 + 256);
        Bench.due("boot", x.boot(false), 0);
        Elf zeros = new Elf();
        for (int k = 0; k < 4; k++) {
            zeros.zeros(Elf.DATA, 1, 16384);
        }
        zeros.global("_start", 1, 0);
        zeros.common("c", 1, 1);
        LinkHouse y = Bench.house(zeros);
        Bench.due("3, and MERGED all the same", y.merge(), 3);
        Bench.due("OUT", y.out(16) & 0xffff, 1);
        Bench.due("look 3", y.look(3), 3);
        Bench.dueThrow("named", IllegalStateException.class, () -> y.named());
        LinkHouse z = houseOf(Bench.out(y));
        Bench.due("it links the same", z.link(false), 3);
        LinkHouse more = Bench.house(new Elf(), Elf.program());
        Bench.due("merge", more.merge(), 0);
        long before = more.look(2);
        more.drop();
        Elf half = new Elf();
        for (int k = 0; k < 19; k++) {
            half.zeros(Elf.DATA, 1, 16384);
        }
        half.weak("_start", 1, 0);
        Bench.due("add", Bench.add(more, half), 0);
        Bench.due("add", Bench.add(more, half), 0);
        Bench.due("too many sections", more.merge(), -1);
        Bench.due("look 3", more.look(3), 3);
        Bench.due("with 3 OUT stays as it was", more.look(2), before);
    }

    /** A merge with an answer 2 has all names; what is wanted is global. */
    private static void mergedAgain() {
        Elf elf = new Elf();
        elf.weak("_end", 0, 0);
        elf.weak("a", 0, 0);
        elf.undefined("_etext");
        LinkHouse x = Bench.house(elf);
        Bench.wish(x, "_edata");
        byte[] first = null;
        for (int k = 0; k < 3; k++) {
            Bench.due("merge", x.merge(), 2);
            byte[] o = Bench.out(x);
            first = first == null ? o : first;
            Bench.due("the same", o, first);
        }
        int at = Elf.placeOf(first, 1);
        int[] due = {0, 0x10, 0x20, 0x20, 0x10};
        for (int j = 1; j < due.length; j++) {
            Bench.due("BIND of name " + j, Bench.num(first, at + 24 * j + 4, 1), due[j]);
            Bench.due("all others 0", Bench.num(first, at + 24 * j + 5, 8), 0);
        }
        int names = Elf.placeOf(first, 2);
        Bench.due("names", Arrays.copyOfRange(first, names, names + 22),
                Bench.latin("\0_edata\0_end\0a\0_etext\0"));
        Bench.due("give", Bench.give(x, "_start", 3), 1);
        Bench.due("merge", x.merge(), 0);
        byte[] o = Bench.out(x);
        at = Elf.placeOf(o, 1);
        Bench.due("what is given comes first", Bench.num(o, at + 24 + 4, 4), 0xfff10010L);
        Bench.due("its value", Bench.num(o, at + 24 + 8, 8), 3);
    }

    private static void packedAgain() {
        LinkHouse x = Bench.house(Elf.program());
        x.pack();
        byte[] first = Bench.out(x);
        for (int k = 0; k < 2; k++) {
            Bench.due("pack", x.pack(), first.length);
            Bench.due("the same", Bench.out(x), first);
        }
        byte[] seven = Bench.out(() -> packedOf(7));
        Bench.due("7 objects", seven.length > first.length, true);
        LinkHouse more = packedOf(7);
        Bench.add(more, Bench.archive(Bench.member("/", new byte[3])));
        Bench.due("an archive without objects counts for none", more.pack(), seven.length);
        more.drop();
        Bench.add(more, new Elf());
        Bench.due("8 objects", more.pack(), -1);
        Bench.due("OUT stays", more.look(2), seven.length);
        Bench.due("its index", more.out(8 + 60), Bench.num(seven, 8 + 60, 8));
        LinkHouse y = houseOf(seven);
        for (int k = 1; k <= 7; k++) {
            Bench.due("object " + k, y.list(0, k), k == 1 ? 26 : 0);
        }
        Bench.due("digits of the objects", seven[seven.length - 60 - new Elf().build().length
                - new Elf().build().length % 2 + 1], '6');
    }

    /** A house with so many objects that has packed them. */
    private static LinkHouse packedOf(int objects) {
        LinkHouse x = Bench.house(Elf.program());
        for (int k = 1; k < objects; k++) {
            Bench.add(x, new Elf());
        }
        x.pack();
        return x;
    }

    private static String state(LinkHouse x) {
        StringBuilder text = new StringBuilder();
        for (int what = 0; what <= 18; what++) {
            text.append(x.look(what)).append(' ');
        }
        return text.append(Bench.hex(Bench.out(x))).toString();
    }

    /** A call that is refused. */
    private interface Refused {
        long run(LinkHouse x);
    }

    private static void dueSame(Bench.Maker maker, String what,
            Class<? extends RuntimeException> want, Refused call) {
        LinkHouse x = maker.make();
        String before = state(x);
        Bench.dueThrow(what, want, () -> call.run(x));
        Bench.due(what + " changes nothing", state(x), before);
    }

    private static void refusedCalls() {
        Class<IllegalStateException> state = IllegalStateException.class;
        dueSame(() -> new LinkHouse(), "drop", state, x -> x.drop());
        dueSame(() -> fullHouse(), "a ninth file", state, x -> x.add());
        refuse(() -> fed());
        refuse(() -> fullHouse());
        Class<NoSuchElementException> none = NoSuchElementException.class;
        dueSame(() -> booted(), "section", none, x -> x.section(1, 0));
        dueSame(() -> booted(), "section", none, x -> x.section(0, 5));
        dueSame(() -> booted(), "place", none, x -> x.place(1));
    }

    private static LinkHouse fed() {
        LinkHouse x = new LinkHouse();
        x.feed(3, 5);
        return x;
    }

    /** Eight files, the second of which brings a double. */
    private static LinkHouse fullHouse() {
        LinkHouse x = new LinkHouse();
        for (int k = 0; k < 8; k++) {
            Bench.due("add", Bench.add(x, Elf.program()), 0);
        }
        x.feed(3, 5);
        x.link(false);
        return x;
    }

    private static LinkHouse booted() {
        LinkHouse x = Bench.house(Elf.program());
        x.link(false);
        x.boot(false);
        x.feed(3, 5);
        return x;
    }

    private static void refuse(Bench.Maker maker) {
        Class<NoSuchElementException> none = NoSuchElementException.class;
        Class<IllegalArgumentException> argument = IllegalArgumentException.class;
        Class<IllegalStateException> state = IllegalStateException.class;
        dueSame(maker, "feed 0", argument, x -> x.feed(0, 1));
        dueSame(maker, "feed 9", argument, x -> x.feed(9, 1));
        dueSame(maker, "named", state, x -> x.named());
        dueSame(maker, "map", state, x -> x.map());
        dueSame(maker, "address", state, x -> x.address());
        dueSame(maker, "section", state, x -> x.section(0, 0));
        dueSame(maker, "place", state, x -> x.place(0));
        dueSame(maker, "list", none, x -> x.list(8, 0));
        dueSame(maker, "sum", none, x -> x.sum(8, 0, 0));
        dueSame(maker, "sum of group 6", none, x -> x.sum(0, 0, 6));
        dueSame(maker, "taken", none, x -> x.taken(8, 0) ? 1 : 0);
        dueSame(maker, "cause", none, x -> x.cause(8, 0));
        dueSame(maker, "out", none, x -> x.out((int) x.look(2)));
        dueSame(maker, "look", argument, x -> x.look(19));
    }
}
