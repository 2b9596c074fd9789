import java.util.NoSuchElementException;

/** Promises 1 (a new object), 2 feed, 7 give, 8 wish, 9 forget, 24 out and 25 look. */
final class TapeTest {
    public static void main(String[] args) {
        newObject();
        feed();
        give();
        wish();
        lists();
        out();
        look();
        Bench.end();
    }

    private static void newObject() {
        LinkHouse x = new LinkHouse();
        for (int what = 0; what <= 18; what++) {
            Bench.due("look(" + what + ") of a new object", x.look(what), what == 3 ? -1 : 0);
        }
        Bench.dueThrow("out(0)", NoSuchElementException.class, () -> x.out(0));
        Bench.dueThrow("drop", IllegalStateException.class, () -> x.drop());
        Bench.dueThrow("named", IllegalStateException.class, () -> x.named());
        Bench.dueThrow("map", IllegalStateException.class, () -> x.map());
        Bench.dueThrow("address", IllegalStateException.class, () -> x.address());
        Bench.dueThrow("section", IllegalStateException.class, () -> x.section(0, 9));
        Bench.dueThrow("place", IllegalStateException.class, () -> x.place(0));
        Bench.dueThrow("taken", NoSuchElementException.class, () -> x.taken(0, 0) ? 1 : 0);
        Bench.dueThrow("cause", NoSuchElementException.class, () -> x.cause(0, 0));
        Bench.dueThrow("list", NoSuchElementException.class, () -> x.list(0, 0));
        Bench.dueThrow("sum", NoSuchElementException.class, () -> x.sum(0, 0, 0));
        Bench.due("peek", x.peek(0x400000), -1);
        Bench.due("flags", x.flags(0x400000), -1);
        Bench.due("near", x.near(0x400000), -1);
        Bench.due("boot of an empty OUT", x.boot(false), 1);
        Bench.due("add of an empty tape", x.add(), 1);
    }

    private static void feed() {
        LinkHouse x = new LinkHouse();
        Bench.due("feed 3", x.feed(3, 0x7f636261), 3);
        Bench.due("feed 1", x.feed(1, 0xffffff64L), 4);
        Bench.due("wish", x.wish(), 1);
        Bench.due("link", x.link(false), 2);
        Bench.due("lowest bytes come first, and n of them", Bench.outText(x), "abcd");
        int before = x.feed(8, -1);
        for (int n : new int[] {0, 9, -1, Integer.MIN_VALUE, Integer.MAX_VALUE}) {
            Bench.dueThrow("feed " + n, IllegalArgumentException.class, () -> x.feed(n, 1));
        }
        Bench.due("the tape after refusals", x.look(1), before);
    }

    private static void give() {
        LinkHouse x = new LinkHouse();
        Bench.dueThrow("give nothing", IllegalArgumentException.class, () -> x.give(1));
        Bench.dueThrow("give 21 bytes", IllegalArgumentException.class,
                () -> Bench.give(x, "a23456789012345678901", 1));
        Bench.due("the tape is used up", x.look(1), 0);
        Bench.dueThrow("give a 0", IllegalArgumentException.class, () -> Bench.give(x, "a\0b", 1));
        Bench.dueThrow("give a 0 at the end", IllegalArgumentException.class,
                () -> Bench.give(x, "a\0", 1));
        Bench.due("give 20 bytes", Bench.give(x, "a2345678901234567890", 1), 1);
        Bench.due("give _start", Bench.give(x, "_start", 0x1234), 2);
        Bench.dueThrow("give again", IllegalStateException.class, () -> Bench.give(x, "_start", 5));
        Bench.due("the tape is used up", x.look(1), 0);
        Bench.due("given", x.look(16), 2);
        Bench.due("link", x.link(false), 0);
        Bench.due("ENTRY is the first value", x.out(24), 0x1234);
        Bench.due("a file without segments", x.look(2), 64);
        Bench.due("no segment", x.look(7), 0);
        x.forget();
        Bench.due("forgotten", x.look(16), 0);
        Bench.due("the link stays", Bench.address(x, "a2345678901234567890"), 1);
        Bench.due("a longer text is another name", Bench.address(x, "a23456789012345678901"), -1);
        Bench.due("a shorter text is another name", Bench.address(x, "a234567890123456789"), -1);
        Bench.due("link without", x.link(false), 2);
    }

    private static void wish() {
        LinkHouse x = new LinkHouse();
        Bench.dueThrow("wish nothing", IllegalArgumentException.class, () -> x.wish());
        Bench.dueThrow("wish 21 bytes", IllegalArgumentException.class,
                () -> Bench.wish(x, "a23456789012345678901"));
        Bench.due("wish", Bench.wish(x, "b"), 1);
        Bench.due("wish", Bench.wish(x, "a"), 2);
        Bench.dueThrow("wish again", IllegalStateException.class, () -> Bench.wish(x, "b"));
        Bench.due("the tape is used up", x.look(1), 0);
        Bench.due("link", x.link(false), 2);
        Bench.due("the first wished one", Bench.outText(x), "b");
        Bench.due("it may be given, too", Bench.give(x, "b", 7), 1);
        Bench.due("link", x.link(false), 2);
        Bench.due("the next one", Bench.outText(x), "a");
        Bench.due("names", x.look(8), 2);
        x.forget();
        Bench.due("wished", x.look(17), 0);
        x.link(false);
        Bench.due("nothing but _start", Bench.outText(x), "_start");
        Bench.due("no names", x.look(8), 0);
    }

    private static void lists() {
        LinkHouse x = new LinkHouse();
        for (int k = 0; k < 16; k++) {
            Bench.due("give", Bench.give(x, "n" + k, k), k + 1);
            Bench.due("wish", Bench.wish(x, "n" + k), k + 1);
        }
        Bench.dueThrow("a 17th given", IllegalStateException.class, () -> Bench.give(x, "m", 1));
        Bench.dueThrow("a 17th wished", IllegalStateException.class, () -> Bench.wish(x, "m"));
        Bench.dueThrow("no name comes first", IllegalArgumentException.class, () -> x.give(1));
        Bench.due("given", x.look(16), 16);
        Bench.due("wished", x.look(17), 16);
        Bench.due("the tape", x.look(1), 0);
    }

    private static void out() {
        LinkHouse x = new LinkHouse();
        x.link(false);
        Bench.due("out(0)", x.out(0), 0x74726174735fL);
        Bench.due("out(5)", x.out(5), 't');
        for (int k : new int[] {6, -1, Integer.MAX_VALUE, Integer.MIN_VALUE}) {
            Bench.dueThrow("out(" + k + ")", NoSuchElementException.class, () -> x.out(k));
        }
    }

    private static void look() {
        LinkHouse x = new LinkHouse();
        for (int what : new int[] {-1, 19, Integer.MIN_VALUE, Integer.MAX_VALUE}) {
            Bench.dueThrow("look(" + what + ")", IllegalArgumentException.class,
                    () -> x.look(what));
        }
        x.feed(5, 0);
        Bench.due("bytes of the tape", x.look(1), 5);
        x.link(true);
        Bench.due("the answer", x.look(3), 2);
        Bench.due("bytes of OUT", x.look(2), 6);
    }
}
