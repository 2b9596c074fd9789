import java.util.Arrays;
import java.util.NoSuchElementException;

/** Promises 3, 4, 17 and 18 at their limits: members, files, and what is taken from archives. */
final class ArchiveEdgesTest {
    public static void main(String[] args) {
        emptyMembers();
        freeBytesAhead();
        oddSizes();
        membersOfNeighbours();
        doubleInMember();
        droppedMemberAlone();
        backwards();
        takenOnce();
        causes();
        indexWithNames();
        linkerNamesInArchives();
        Bench.end();
    }

    private static void due(String what, String file, int want) {
        LinkHouse x = new LinkHouse();
        Bench.due(what, Bench.add(x, Bench.latin(file)), want);
        Bench.due(what + ": files", x.look(0), want == 0 ? 1 : 0);
        Bench.due(what + ": the tape is used up", x.look(1), 0);
    }

    private static String ahead(String name, String size, String end) {
        return String.format("%-48s%-10s", name, size) + end;
    }

    /** An object with a byte of data that defines a name at VALUE 0, and misses others. */
    private static byte[] defining(String name, String... missed) {
        Elf elf = new Elf();
        elf.global(name, elf.data(1), 0);
        for (String other : missed) {
            elf.undefined(other);
        }
        return elf.build();
    }

    private static Elf needing(String... names) {
        Elf elf = Elf.program();
        for (String name : names) {
            elf.undefined(name);
        }
        return elf;
    }

    private static void emptyMembers() {
        String head = "!<arch>\n";
        due("the eight bytes alone", head, 0);
        due("an empty index", head + ahead("/", "0", "`\n"), 0);
        due("an empty object", head + ahead("a/", "0", "`\n"), 1);
        due("a wrong byte at 58", head + ahead("/", "0", "x\n"), 8);
        due("a wrong byte at 59", head + ahead("/", "0", "`x"), 8);
        due("a letter for its size", head + ahead("/", "x", "`\n"), 8);
        due("a letter behind the digits", head + ahead("/", "0x", "`\n"), 8);
        due("a letter behind blanks", head + ahead("/", "0        x", "`\n"), 8);
        due("a sign", head + ahead("/", "+0", "`\n"), 8);
        due("a byte below the digits", head + ahead("/", "/", "`\n"), 8);
        due("a byte above the digits", head + ahead("/", ":", "`\n"), 8);
        due("a byte above them, as if 20 were told",
                head + ahead("/", "1:", "`\n") + "x".repeat(20), 8);
        due("one below them, as if 189 were told",
                head + ahead("/", "19/", "`\n") + "x".repeat(189) + "\n", 8);
        due("all ten digits 0", head + ahead("/", "0000000000", "`\n"), 0);
        due("no digit", head + ahead("/", "", "`\n"), 8);
        due("59 bytes ahead", head + ahead("/", "0", "`"), 8);
        due("a byte 0x2f ahead counts", head + ahead("/names", "1", "`\n") + "x\n", 0);
        due("a byte 0x2f further on does not", head + ahead("a/", "1", "`\n") + "x\n", 1);
        due("another eighth byte", "!<arch>\r", 1);
    }

    /** Of the 48 bytes ahead of a member's size only the first is looked at. */
    private static void freeBytesAhead() {
        byte[] good = Bench.archive(Bench.member("a/", defining("a")));
        byte[] free = good.clone();
        Arrays.fill(free, 9, 8 + 48, (byte) 0x2f);
        for (int first : new int[] {0, 0x20, 0x2e, 0x30, 0xff}) {
            LinkHouse x = new LinkHouse();
            Bench.due("add", Bench.add(x, Bench.with(free, 8, 1, first)), 0);
            Bench.due("an object behind a byte " + first, x.list(0, 0), 21);
        }
        LinkHouse x = new LinkHouse();
        Bench.due("add", Bench.add(x, Bench.with(free, 8, 1, 0x2f)), 0);
        Bench.dueThrow("no object", NoSuchElementException.class, () -> x.list(0, 0));
    }

    private static void oddSizes() {
        byte[] object = defining("a");
        byte[] odd = object.length % 2 == 1 ? object : Bench.join(object, new byte[1]);
        byte[] even = Bench.join(odd, new byte[1]);
        byte[] two = Bench.archive(Bench.member("a/", odd), Bench.member("b/", even),
                Bench.member("c/", odd));
        LinkHouse x = new LinkHouse();
        Bench.due("odd, even, odd", Bench.add(x, two), 0);
        for (int k = 0; k < 3; k++) {
            Bench.due("list", x.list(0, k), 21);
        }
        byte[] without = Bench.archive(Bench.member("a/", odd));
        byte[] cut = Arrays.copyOf(without, without.length - 1);
        Bench.due("the last one's byte 0x0a is missing", Bench.add(x, cut), 8);
        without[without.length - 1] = 0;
        Bench.due("another byte there", Bench.add(x, without), 8);
        byte[] more = Bench.join(Bench.archive(Bench.member("b/", even)), Bench.bytes(10));
        Bench.due("a byte 0x0a behind an even number", Bench.add(x, more), 8);
    }

    /** Member 8 of a file is none, also when a file comes behind it. */
    private static void membersOfNeighbours() {
        LinkHouse x = Bench.house(Elf.program(), new Elf());
        for (int k : new int[] {-1, 1, 7, 8, 9, Integer.MAX_VALUE, Integer.MIN_VALUE}) {
            Bench.dueThrow("taken", NoSuchElementException.class, () -> x.taken(0, k) ? 1 : 0);
            Bench.dueThrow("cause", NoSuchElementException.class, () -> x.cause(0, k));
            Bench.dueThrow("list", NoSuchElementException.class, () -> x.list(0, k));
            Bench.dueThrow("sum", NoSuchElementException.class, () -> x.sum(0, k, 0));
        }
        for (int i : new int[] {-1, 2, 7, 8, Integer.MAX_VALUE, Integer.MIN_VALUE}) {
            Bench.dueThrow("taken", NoSuchElementException.class, () -> x.taken(i, 0) ? 1 : 0);
            Bench.dueThrow("cause", NoSuchElementException.class, () -> x.cause(i, 0));
            Bench.dueThrow("list", NoSuchElementException.class, () -> x.list(i, 0));
            Bench.dueThrow("sum", NoSuchElementException.class, () -> x.sum(i, 0, 0));
        }
    }

    private static void doubleInMember() {
        LinkHouse x = Bench.house(needing("a"));
        Elf twice = new Elf();
        twice.global("a", Elf.FIXED, 1);
        twice.global("_start", Elf.FIXED, 2);
        twice.undefined("late");
        Bench.add(x, Bench.archive(Bench.member("t/", twice.build()),
                Bench.member("l/", defining("late"))));
        Bench.add(x, defining("behind"));
        Bench.due("a member brings a double", x.link(false), 1);
        Bench.due("OUT", Bench.outText(x), "_start");
        Bench.due("objects taken", x.look(5), 2);
        Bench.due("it is the last one taken", x.taken(1, 0), true);
        Bench.due("not the next member", x.taken(1, 1), false);
        Bench.due("not the next file", x.taken(2, 0), false);
        Bench.due("names of both", x.look(8), 3);
        Bench.due("its cause", x.cause(1, 0), 1);
        Bench.due("OUT", Bench.outText(x), "a");
        Bench.due("the answer stays", x.look(3), 1);
    }

    /** What a member defines in a dropped section is wanted still, but it is taken once. */
    private static void droppedMemberAlone() {
        Elf first = needing("want");
        int sign = first.weak("sign", Elf.FIXED, 0);
        first.group(sign, 1);
        Elf member = new Elf();
        int data = member.data(1);
        member.global("want", data, 0);
        member.group(member.weak("sign", 0, 0), 1, data);
        LinkHouse x = Bench.house(first);
        Bench.add(x, Bench.archive(Bench.member("m/", member.build())));
        Bench.due("link", x.link(false), 2);
        Bench.due("OUT", Bench.outText(x), "want");
        Bench.due("objects taken", x.look(5), 2);
        Bench.due("groups dropped", x.look(13), 1);
        Bench.due("kept sections", x.look(6), 1);
        Bench.due("cause", x.cause(1, 0), 4);
        Bench.due("link again", x.link(true), 2);
        Bench.due("groups dropped", x.look(13), 1);
    }

    private static LinkHouse wishing(String name) {
        LinkHouse x = new LinkHouse();
        Bench.give(x, "_start", 1);
        Bench.wish(x, name);
        return x;
    }

    /** The last member is wanted first: eight rounds, and one that takes none. */
    private static void backwards() {
        byte[][] members = new byte[8][];
        for (int k = 0; k < 8; k++) {
            byte[] object = k == 0 ? defining("n0") : defining("n" + k, "n" + (k - 1));
            members[k] = Bench.member("m/", object);
        }
        LinkHouse x = wishing("n7");
        Bench.add(x, Bench.archive(members));
        Bench.due("link", x.link(false), 0);
        Bench.due("objects taken", x.look(5), 8);
        for (int i = 0; i < 8; i++) {
            Bench.due("in the order of taking", x.section(i, 1), 7 - i);
        }
        byte[][] fewer = members.clone();
        fewer[3] = Bench.member("/", new byte[2]);
        LinkHouse y = wishing("n7");
        Bench.add(y, Bench.archive(fewer));
        Bench.due("one is missing", y.link(false), 2);
        Bench.due("OUT", Bench.outText(y), "n3");
        Bench.due("objects taken", y.look(5), 4);
    }

    private static void takenOnce() {
        byte[] both = Bench.archive(Bench.member("a/", defining("a")),
                Bench.member("b/", defining("a")));
        LinkHouse x = Bench.house(needing("a"));
        Bench.add(x, both);
        Bench.add(x, both);
        Bench.due("link", x.link(false), 0);
        Bench.due("the first one that defines it", x.taken(1, 0), true);
        Bench.due("not the second", x.taken(1, 1), false);
        Bench.due("not another file's", x.taken(2, 0), false);
        Elf weak = new Elf();
        weak.weak("a", Elf.FIXED, 5);
        LinkHouse y = Bench.house(needing("a"), weak);
        Bench.add(y, both);
        Bench.due("link", y.link(false), 0);
        Bench.due("a weak definition is enough", y.taken(2, 0), false);
        LinkHouse z = Bench.house(needing("w"));
        Elf member = new Elf();
        member.weak("w", Elf.FIXED, 6);
        Bench.add(z, Bench.archive(Bench.member("w/", member.build())));
        Bench.due("link", z.link(false), 0);
        Bench.due("a member that defines it weakly", z.taken(1, 0), true);
    }

    private static void causes() {
        Elf many = new Elf();
        many.local(0, Elf.FIXED, 1);
        many.undefined("b");
        many.weak("x", Elf.FIXED, 1);
        many.common("c", 4, 4);
        many.global("a", Elf.FIXED, 2);
        many.global("b", Elf.FIXED, 3);
        LinkHouse x = Bench.house(needing("a", "b", "c"));
        Bench.add(x, Bench.archive(Bench.member("m/", many.build())));
        Bench.due("before a link", x.cause(1, 0), 0);
        Bench.due("link", x.link(false), 0);
        long size = x.look(2);
        Bench.due("an object has none", x.cause(0, 0), 0);
        Bench.due("OUT stays", x.look(2), size);
        Bench.due("how many bytes", x.cause(1, 0), 1);
        Bench.due("the first by its symbols", Bench.outText(x), "c");
        Bench.give(x, "c", 1);
        x.link(false);
        x.cause(1, 0);
        Bench.due("of those wanted then", Bench.outText(x), "a");
        String longest = "b2345678901234567890";
        LinkHouse y = Bench.house(needing(longest));
        Bench.add(y, Bench.archive(Bench.member("m/", defining(longest))));
        y.link(false);
        Bench.due("20 bytes", y.cause(1, 0), 20);
        Bench.due("OUT", Bench.outText(y), longest);
    }

    /** An index counts for nothing, even if it is an object with a name that is wanted. */
    private static void indexWithNames() {
        LinkHouse x = Bench.house(needing("a"));
        Bench.add(x, Bench.archive(Bench.member("/", defining("a")),
                Bench.member("a/", defining("a"))));
        Bench.due("link", x.link(false), 0);
        Bench.due("the index", x.taken(1, 0), false);
        Bench.due("its cause", x.cause(1, 0), 0);
        Bench.due("member 1", x.taken(1, 1), true);
        Bench.dueThrow("no list of it", NoSuchElementException.class, () -> x.list(1, 0));
        Bench.dueThrow("no sum of it", NoSuchElementException.class, () -> x.sum(1, 0, 2));
        Bench.due("pack leaves it out", x.pack() > 0, true);
        Bench.due("two names", x.out(8 + 60) & 0xffffffffL, 2L << 24);
    }

    /** The linker's own names are defined when all files are through: a member goes first. */
    private static void linkerNamesInArchives() {
        LinkHouse x = Bench.house(needing("_end"));
        Bench.due("link", x.link(false), 0);
        Bench.due("the linker's", Bench.address(x, "_end"), 0x401000);
        Elf member = new Elf();
        member.global("_end", Elf.FIXED, 99);
        Bench.add(x, Bench.archive(Bench.member("e/", member.build())));
        Bench.due("link", x.link(false), 0);
        Bench.due("a member's", Bench.address(x, "_end"), 99);
        x.cause(1, 0);
        Bench.due("its cause", Bench.outText(x), "_end");
    }
}
