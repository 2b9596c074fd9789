import java.util.Arrays;
import java.util.NoSuchElementException;

/** Promises 3 (archives), 4 drop, 17 taken and 18 cause, and how members are taken. */
final class ArchiveTest {
    public static void main(String[] args) {
        forms();
        sizes();
        errorsOfMembers();
        files();
        taking();
        rounds();
        weakAndWished();
        laterFiles();
        Bench.end();
    }

    private static void due(String what, byte[] file, int want) {
        Bench.due(what, Bench.add(new LinkHouse(), file), want);
    }

    /** A member's object that defines some names in a byte of data, and misses one. */
    private static byte[] defining(String missed, String... names) {
        Elf elf = new Elf();
        int data = elf.data(1);
        for (String name : names) {
            elf.global(name, data, 0);
        }
        if (missed != null) {
            elf.undefined(missed);
        }
        return elf.build();
    }

    private static byte[] needing(String... names) {
        Elf elf = Elf.program();
        for (String name : names) {
            elf.undefined(name);
        }
        return elf.build();
    }

    private static void forms() {
        byte[] object = defining(null, "a");
        byte[] good = Bench.archive(Bench.member("a/", object));
        due("no members", Bench.archive(), 0);
        due("one member", good, 0);
        due("an index alone", Bench.archive(Bench.member("/", Bench.latin("junk"))), 0);
        due("seven bytes of the eight", Arrays.copyOf(Bench.archive(), 7), 1);
        due("one byte behind", Bench.join(good, Bench.bytes(10)), 8);
        due("cut", Arrays.copyOf(good, good.length - 1), 8);
        due("59 bytes ahead", Bench.join(Bench.archive(), new byte[59]), 8);
        for (int at : new int[] {58, 59}) {
            byte[] bad = good.clone();
            bad[8 + at] ^= 1;
            due("byte " + at + " ahead", bad, 8);
        }
        byte[][] eight = new byte[8][];
        Arrays.fill(eight, Bench.member("/", new byte[0]));
        due("eight members", Bench.archive(eight), 0);
        byte[][] nine = new byte[9][];
        Arrays.fill(nine, Bench.member("/", new byte[0]));
        due("nine members", Bench.archive(nine), 8);
    }

    /** An archive with one index member whose ten bytes of size are these. */
    private static byte[] sized(String size, String body) {
        return Bench.latin("!<arch>\n" + String.format("%-48s%-10s", "/", size) + "`\n" + body);
    }

    private static void sizes() {
        due("2", sized("2", "ab"), 0);
        due("ten digits", sized("0000000002", "ab"), 0);
        due("no digit", sized("", ""), 8);
        due("a blank ahead", sized(" 2", "ab"), 8);
        due("a blank between", sized("0 2", "ab"), 8);
        due("no digits", sized("2x", "ab"), 8);
        due("a 0 byte", sized("2\0", "ab"), 8);
        due("above all", sized("9999999999", "ab"), 8);
        due("above int", sized("4294967298", "ab"), 8);
        due("odd with its byte", sized("1", "a\n"), 0);
        due("odd without", sized("1", "a"), 8);
        due("odd with another", sized("1", "ab"), 8);
        due("one too few", sized("3", "ab"), 8);
    }

    private static void errorsOfMembers() {
        byte[] good = defining(null, "a");
        byte[] six = defining(null, "");
        byte[] one = Bench.bytes(1, 2, 3);
        due("the first member's", Bench.archive(Bench.member("a/", good), Bench.member("b/", six),
                Bench.member("c/", one)), 6);
        due("8 first of all", Bench.join(Bench.archive(Bench.member("b/", six)),
                Bench.bytes(1)), 8);
        due("an archive is no member", Bench.archive(Bench.member("a/", Bench.archive())), 1);
        due("an index is not looked at", Bench.archive(Bench.member("/x", one)), 0);
    }

    private static void files() {
        LinkHouse x = new LinkHouse();
        for (int k = 0; k < 8; k++) {
            Bench.due("add", Bench.add(x, Bench.archive()), 0);
            Bench.due("files", x.look(0), k + 1);
        }
        Bench.feed(x, Bench.archive());
        Bench.dueThrow("a ninth", IllegalStateException.class, () -> x.add());
        Bench.due("the tape stays", x.look(1), 8);
        Bench.due("drop", x.drop(), 7);
        Bench.due("add", x.add(), 0);
        Bench.due("files", x.look(0), 8);
        for (int k = 7; k >= 0; k--) {
            Bench.due("drop", x.drop(), k);
        }
        Bench.dueThrow("drop", IllegalStateException.class, () -> x.drop());
        x.feed(3, 0);
        Bench.due("a bad file", x.add(), 1);
        Bench.due("the tape is used up", x.look(1), 0);
        Bench.due("no file more", x.look(0), 0);
    }

    private static void taking() {
        LinkHouse x = new LinkHouse();
        Bench.add(x, needing("b", "c"));
        byte[] archive = Bench.archive(Bench.member("/", new byte[2]),
                Bench.member("a/", defining(null, "a")),
                Bench.member("b/", defining(null, "x", "c", "b")));
        Bench.due("add", Bench.add(x, archive), 0);
        Bench.due("before a link", x.taken(0, 0), false);
        Bench.due("link", x.link(false), 0);
        Bench.due("an object", x.taken(0, 0), true);
        Bench.due("the index", x.taken(1, 0), false);
        Bench.due("not wanted", x.taken(1, 1), false);
        Bench.due("wanted", x.taken(1, 2), true);
        Bench.due("objects taken", x.look(5), 2);
        Bench.due("cause of an object", x.cause(0, 0), 0);
        Bench.due("cause of one not taken", x.cause(1, 1), 0);
        Bench.due("cause of an index", x.cause(1, 0), 0);
        Bench.due("OUT stays", x.look(2) > 1, true);
        Bench.due("cause", x.cause(1, 2), 1);
        Bench.due("the first by its symbols", Bench.outText(x), "c");
        int[][] absent = {{-1, 0}, {2, 0}, {0, 1}, {0, -1}, {1, 3}, {1, -1}, {1, 8}};
        for (int[] at : absent) {
            Bench.dueThrow("taken", NoSuchElementException.class,
                    () -> x.taken(at[0], at[1]) ? 1 : 0);
            Bench.dueThrow("cause", NoSuchElementException.class, () -> x.cause(at[0], at[1]));
        }
        Bench.due("section's file", x.section(1, 0), 1);
        Bench.due("section's member", x.section(1, 1), 2);
    }

    private static void rounds() {
        LinkHouse x = new LinkHouse();
        byte[] archive = Bench.archive(Bench.member("c/", defining(null, "c")),
                Bench.member("b/", defining("c", "b")), Bench.member("a/", defining("b", "a")));
        Bench.add(x, archive);
        Bench.add(x, needing("a"));
        Bench.due("an archive ahead is not gone back to", x.link(false), 2);
        Bench.due("wanted", Bench.outText(x), "a");
        Bench.due("objects taken", x.look(5), 1);
        LinkHouse y = new LinkHouse();
        Bench.add(y, needing("a"));
        Bench.add(y, archive);
        Bench.due("link", y.link(false), 0);
        Bench.due("objects taken", y.look(5), 4);
        StringBuilder order = new StringBuilder();
        for (int i = 1; i < 4; i++) {
            order.append(y.section(i, 1));
        }
        Bench.due("in three rounds", order.toString(), "210");
        byte[] twice = Bench.archive(Bench.member("a/", defining("b", "a")),
                Bench.member("b/", defining(null, "b")), Bench.member("c/", defining(null, "b")));
        y.drop();
        Bench.add(y, twice);
        Bench.due("link", y.link(false), 0);
        Bench.due("the next one in the same round", y.taken(1, 1), true);
        Bench.due("what is defined is not wanted", y.taken(1, 2), false);
    }

    private static void weakAndWished() {
        LinkHouse x = new LinkHouse();
        Elf elf = Elf.program();
        elf.weak("w", 0, 0);
        Bench.add(x, elf);
        byte[] archive = Bench.archive(Bench.member("w/", defining(null, "w")),
                Bench.member("u/", defining(null, "u")));
        Bench.add(x, archive);
        Bench.due("link", x.link(false), 0);
        Bench.due("weak ones want nothing", x.taken(1, 0), false);
        Bench.due("w is undefined", Bench.address(x, "w"), 0);
        Bench.due("no one has u", Bench.address(x, "u"), -1);
        Bench.wish(x, "u");
        Bench.due("link", x.link(false), 0);
        Bench.due("wished", x.taken(1, 1), true);
        x.cause(1, 1);
        Bench.due("cause", Bench.outText(x), "u");
        Bench.give(x, "u", 5);
        Bench.due("link", x.link(false), 0);
        Bench.due("given ones are not wanted", x.taken(1, 1), false);
        Elf common = new Elf();
        common.common("v", 4, 4);
        LinkHouse y = new LinkHouse();
        Bench.add(y, needing("v"));
        Bench.add(y, Bench.archive(Bench.member("v/", common.build())));
        Bench.due("a common one defines", y.link(false), 0);
        Bench.due("taken", y.taken(1, 0), true);
    }

    private static void laterFiles() {
        LinkHouse x = new LinkHouse();
        Bench.add(x, Elf.program());
        Bench.add(x, Bench.archive(Bench.member("u/", defining(null, "u"))));
        Bench.wish(x, "u");
        Bench.due("link", x.link(false), 0);
        Bench.add(x, Bench.archive(Bench.member("t/", defining(null, "t"))));
        Bench.due("a file behind the link", x.taken(2, 0), false);
        Bench.due("its cause", x.cause(2, 0), 0);
        x.drop();
        x.drop();
        Bench.dueThrow("gone by now", NoSuchElementException.class, () -> x.taken(1, 0) ? 1 : 0);
        Bench.add(x, Bench.archive(Bench.member("t/", defining(null, "t"))));
        Bench.due("another one in its place", x.taken(1, 0), false);
        Bench.due("its cause", x.cause(1, 0), 0);
        Bench.due("the first one", x.taken(0, 0), true);
        Bench.due("what the link found stays", x.section(1, 0), 1);
        LinkHouse y = new LinkHouse();
        Bench.add(y, Bench.archive(Bench.member("u/", defining(null, "u"))));
        Bench.wish(y, "u");
        y.link(false);
        Bench.due("taken for a wish", y.taken(0, 0), true);
        y.forget();
        y.link(false);
        Bench.due("not by the latest link", y.taken(0, 0), false);
        Bench.due("its cause", y.cause(0, 0), 0);
    }
}
