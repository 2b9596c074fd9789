import java.util.NoSuchElementException;

/**
 * Limits that take more than 512 calls to come to. The document leaves free what is answered then;
 * the class goes on as before, and no exception of the machine may come out there either.
 */
final class BeyondTest {
    public static void main(String[] args) {
        fullTape();
        manyRefusals();
        fullHouse();
        tooLarge();
        tooLongMap();
        Bench.end();
    }

    private static void fullTape() {
        LinkHouse x = new LinkHouse();
        for (int k = 0; k < 1023; k++) {
            x.feed(8, k);
        }
        Bench.due("feed 7", x.feed(7, 0), 8191);
        Bench.dueThrow("feed 2 beyond", IllegalStateException.class, () -> x.feed(2, 0));
        Bench.dueThrow("feed 9 beyond", IllegalArgumentException.class, () -> x.feed(9, 0));
        Bench.due("feed 1", x.feed(1, 0), 8192);
        Bench.dueThrow("feed 1 beyond", IllegalStateException.class, () -> x.feed(1, 0));
        Bench.due("a full tape is no name", x.look(1), 8192);
        Bench.dueThrow("give", IllegalArgumentException.class, () -> x.give(0));
        Bench.due("it is used up", x.look(1), 0);
    }

    private static void manyRefusals() {
        LinkHouse x = Bench.house(Elf.program());
        for (int k = 0; k < 10; k++) {
            Bench.due("a large bad one", Bench.add(x, new byte[8000]), 1);
        }
        Elf large = new Elf();
        large.global("a", large.data(new int[4000]), 0);
        for (int k = 0; k < 10; k++) {
            Bench.due("a large good one", Bench.add(x, large), 0);
            Bench.due("link", x.link(false), 0);
            Bench.due("it goes", x.drop(), 1);
        }
        Bench.due("all are gone", x.link(false), 0);
        Bench.due("OUT", x.look(2), 130);
    }

    /** An object of a chain: its code reaches data of its own and the next one's code. */
    private static byte[] linkOf(int k) {
        Elf elf = new Elf();
        int text = elf.text(new int[24]);
        int data = elf.data(k);
        int local = elf.local(0, data, 0);
        int own = elf.global(name(k), text, 0);
        int next = elf.undefined(name(k + 1));
        int sites = elf.sites(text);
        elf.site(sites, 0, 4, next, 0).site(sites, 4, 10, local, 7).site(sites, 8, 9, own, 0)
                .site(sites, 12, 22, own, 0).site(sites, 16, 9, local, 0)
                .site(sites, 20, 22, local, 0);
        return elf.build();
    }

    /** 8 files of 8 members: 64 objects, all of which are taken. */
    private static void fullHouse() {
        LinkHouse x = new LinkHouse();
        for (int f = 0; f < 8; f++) {
            byte[][] members = new byte[8][];
            for (int k = 0; k < 8; k++) {
                members[k] = Bench.member("m/", linkOf(8 * f + k));
            }
            Bench.due("add", Bench.add(x, Bench.archive(members)), 0);
        }
        for (int k = 0; k < 16; k++) {
            Bench.give(x, k == 0 ? name(64) : "given" + k, k);
            Bench.wish(x, k == 0 ? "_start" : "given" + k);
        }
        for (int k = 0; k < 2; k++) {
            Bench.due("link", x.link(k == 1), 0);
            dueFull(x);
        }
        Bench.due("pack", x.pack(), -1);
        Bench.due("merge", x.merge(), -1);
        Bench.dueThrow("file 8", NoSuchElementException.class, () -> x.taken(8, 0) ? 1 : 0);
        Bench.dueThrow("file 8", NoSuchElementException.class, () -> x.cause(8, 0));
        Bench.dueThrow("file 8", NoSuchElementException.class, () -> x.list(8, 0));
        Bench.dueThrow("file 8", NoSuchElementException.class, () -> x.sum(8, 0, 0));
        Bench.dueThrow("member 8", NoSuchElementException.class, () -> x.taken(7, 8) ? 1 : 0);
    }

    private static void dueFull(LinkHouse x) {
        Bench.due("objects", x.look(5), 64);
        Bench.due("kept sections", x.look(6), 128);
        Bench.due("names", x.look(8), 64 + 16);
        Bench.due("slots", x.look(12), 256);
        long text = x.place(0);
        long data = x.place(64);
        int code = (int) x.out(64 + 8);
        int bytes = (int) x.out(64 + 56 + 8);
        for (int i = 0; i < 64; i++) {
            Bench.due("file", x.section(i, 0), i / 8);
            Bench.due("member", x.section(i, 1), i % 8);
            Bench.due("place", x.place(i), text + 24 * i);
            Bench.due("place", x.place(64 + i), data + i);
            Bench.due("taken", x.taken(i / 8, i % 8), true);
            Bench.due("address", Bench.address(x, name(i)), text + 24 * i);
            Bench.due("byte", x.out(bytes + i) & 255, i);
            Bench.due("the next one", (int) x.out(code + 24 * i), i < 63 ? 24 : -text - 24 * i);
            Bench.due("its own", (int) x.out(code + 24 * i + 4), data + i + 7);
            long[] slots = {text + 24 * i, text + 24 * i - x.look(15), data + i,
                data + i - x.look(15)};
            for (int k = 0; k < 4; k++) {
                long way = data + 64 + 8 * (4 * i + k) - (text + 24 * i + 8 + 4 * k);
                Bench.due("slot", (int) x.out(code + 24 * i + 8 + 4 * k), way);
                Bench.due("it holds", x.out(bytes + 64 + 8 * (4 * i + k)), slots[k]);
            }
        }
    }

    private static String name(int k) {
        return k == 0 ? "_start" : "n" + k;
    }

    /** An object of so many bytes. */
    private static byte[] sized(int length) {
        Elf empty = new Elf();
        empty.section(1, 0, 1, new byte[0]);
        Elf elf = new Elf();
        elf.section(1, 0, 1, new byte[length - empty.build().length]);
        return elf.build();
    }

    private static void tooLarge() {
        LinkHouse x = new LinkHouse();
        int rest = 8192 - (8 + 60 + 4) - 60 - 4000 - 60;
        Bench.due("add", Bench.add(x, sized(4000)), 0);
        Bench.due("add", Bench.add(x, sized(rest)), 0);
        Bench.due("8192 bytes", x.pack(), 8192);
        x.drop();
        Bench.due("add", Bench.add(x, sized(rest + 1)), 0);
        Bench.due("more", x.pack(), -1);
        Bench.due("OUT stays", x.look(2), 8192);
    }

    /** Object k of a chain: it defines so many names and misses the next one's. */
    private static byte[] manyNames(int k, int count) {
        Elf elf = new Elf();
        elf.global("k" + k, Elf.FIXED, k);
        elf.undefined("k" + (k + 1));
        int at = 0;
        for (int n = 1; n < count; n++) {
            // an end of a text is another name, and takes no room of its own
            if (n % 9 == 1) {
                at = elf.nameText(String.format(".............%05d%02d", k, n));
            }
            elf.symbolAt(at + (n - 1) % 9, Elf.GLOBAL, 0, Elf.FIXED, n, 0);
        }
        return elf.build();
    }

    private static void tooLongMap() {
        LinkHouse x = new LinkHouse();
        for (int f = 0; f < 8; f++) {
            byte[][] members = new byte[4][];
            for (int k = 0; k < 4; k++) {
                members[k] = Bench.member("m/", manyNames(4 * f + k, f < 7 ? 62 : 46));
            }
            Bench.due("add", Bench.add(x, Bench.archive(members)), 0);
        }
        Bench.give(x, "_start", 1);
        Bench.wish(x, "k0");
        Bench.give(x, "k32", 0);
        Bench.due("link", x.link(false), 0);
        Bench.due("objects", x.look(5), 32);
        int rest = 65536 - x.map();
        Bench.due("a map that is nearly full", rest > 38 && rest < 13 * 38, true);
        for (int k = 0; rest > 0; k++) {
            int line = rest >= 2 * 38 ? 38 : rest > 38 ? rest / 2 : rest;
            Bench.give(x, String.format("%02d................................", k)
                    .substring(0, line - 18), k);
            rest -= line;
        }
        Bench.due("link", x.link(false), 0);
        Bench.due("65536 bytes", x.map(), 65536);
        Bench.due("the last one", x.out(65535), 10);
        Bench.give(x, "more", 1);
        Bench.due("link", x.link(false), 0);
        long file = x.look(2);
        Bench.due("more", x.map(), -1);
        Bench.due("OUT stays", x.look(2), file);
        Bench.due("named is refused, too", x.named(), -1);
        Bench.due("OUT stays", x.look(2), file);
        for (int k = 0; k < 7; k++) {
            x.drop();
        }
        x.forget();
        Bench.give(x, "_start", 1);
        Bench.due("link of less", x.link(false), 0);
        Bench.due("its map", x.map(), 24);
    }
}
