import java.lang.management.ManagementFactory;

/** All memory is made once: 512 calls make next to nothing anew. */
final class RoomTest {
    private static final com.sun.management.ThreadMXBean THREADS =
            (com.sun.management.ThreadMXBean) ManagementFactory.getThreadMXBean();

    public static void main(String[] args) {
        dear(house());
        long before = made();
        LinkHouse x = house();
        long made = made() - before;
        Bench.due("a house has 7.3 million elements at most (" + made + " bytes)",
                made < 4_000_000, true);
        before = made();
        dear(x);
        long more = made() - before;
        Bench.due("its calls make little (" + more + " bytes)", more < 1_000_000, true);
        Bench.end();
    }

    private static long made() {
        return THREADS.getThreadAllocatedBytes(Thread.currentThread().getId());
    }

    private static LinkHouse house() {
        Elf elf = new Elf();
        int text = elf.text(new int[64]);
        int sites = elf.sites(text);
        elf.global("_start", text, 0);
        elf.strings("hello\0lo\0");
        elf.common("c", 8, 8);
        for (int k = 0; k < 10; k++) {
            elf.site(sites, 4 * k, 9, elf.global("n" + k, text, k), 0);
        }
        byte[] object = elf.build();
        LinkHouse x = new LinkHouse();
        Bench.feed(x, object);
        x.add();
        return x;
    }

    private static void dear(LinkHouse x) {
        for (int k = 0; k < 40; k++) {
            x.link(k % 2 == 0);
            x.named();
            x.boot(false);
            x.near(x.look(10));
            x.merge();
            x.map();
            x.pack();
            x.list(0, 0);
        }
    }
}
