/** A new object, and the smallest link. */
final class FirstTest {
    public static void main(String[] args) {
        LinkHouse x = new LinkHouse();
        long[] fresh = new long[19];
        fresh[3] = -1;
        for (int what = 0; what < fresh.length; what++) {
            Bench.due("look(" + what + ") of a new object", x.look(what), fresh[what]);
        }
        Bench.due("add", Bench.add(x, Elf.program()), 0);
        Bench.due("link", x.link(false), 0);
        Bench.due("ENTRY", x.out(24), 0x400080);
        Bench.due("boot", x.boot(false), 0);
        Bench.due("peek", x.peek(0x400080), 0x90);
        Bench.end();
    }
}
