/** Promise 5 with REACHED: what stays, and what becomes of the rest. */
final class ReachedTest {
    public static void main(String[] args) {
        chain();
        commons();
        nothing();
        strings();
        Bench.end();
    }

    private static void chain() {
        Elf elf = new Elf();
        int text = elf.text(new int[8]);
        int idle = elf.text(7, 7, 7);
        int named = elf.data(new int[8]);
        int third = elf.readOnly(5);
        elf.global("_start", text, 0);
        int other = elf.global("other", named, 1);
        elf.global("lonely", idle, 1);
        int local = elf.local(0, third, 0);
        int idleLocal = elf.local(0, idle, 2);
        elf.site(elf.sites(text), 0, 2, other, 0);
        int dataSites = elf.sites(named);
        elf.site(dataSites, 0, 10, local, 0).site(dataSites, 4, 0, idleLocal, 0);
        elf.site(elf.sites(idle), 0, 0, other, 0);
        LinkHouse x = Bench.house(elf);
        Bench.due("all", x.link(false), 0);
        Bench.due("all sections", x.look(6), 4);
        Bench.due("with REACHED", x.link(true), 0);
        Bench.due("those reached", x.look(6), 3);
        StringBuilder numbers = new StringBuilder();
        for (int i = 0; i < 3; i++) {
            numbers.append(x.section(i, 2)).append(' ');
        }
        Bench.due("text, third, named", numbers.toString(),
                text + " " + third + " " + named + " ");
        Bench.due("its symbols have address 0", Bench.address(x, "lonely"), 0);
        Bench.due("others are as laid out", Bench.address(x, "other"), x.place(2) + 1);
        Bench.due("memory of the first segment", x.out(64 + 40), 8);
        x.named();
        int symbols = (int) x.out((int) x.out(40) + 64 * 4 + 24);
        Bench.due("lonely stands in no segment", x.out(symbols + 24 * 3 + 4) >>> 16 & 0xffff,
                0xfff1);
    }

    private static void commons() {
        Elf elf = new Elf();
        int text = elf.text(new int[8]);
        int idle = elf.text(new int[8]);
        int a = elf.common("a", 4, 4);
        elf.global("_start", text, 0);
        int b = elf.common("b", 4, 4);
        elf.site(elf.sites(text), 0, 2, b, 0).site(elf.sites(idle), 0, 2, a, 0);
        LinkHouse x = Bench.house(elf);
        x.link(false);
        Bench.due("both", x.out(64 + 56 + 40), 8);
        x.link(true);
        Bench.due("one", x.out(64 + 56 + 40), 4);
        Bench.due("a", Bench.address(x, "a"), 0);
        Bench.due("b", Bench.address(x, "b"), x.out(64 + 56 + 16));
        Elf start = new Elf();
        start.common("_start", 16, 4);
        start.common("more", 16, 4);
        start.data(1, 2, 3);
        LinkHouse y = Bench.house(start);
        Bench.due("link", y.link(true), 0);
        Bench.due("_start's alone", y.out(64 + 40), 4);
        Bench.due("no sections", y.look(6), 0);
    }

    private static void nothing() {
        Elf elf = Elf.program();
        LinkHouse x = new LinkHouse();
        Bench.give(x, "_start", 5);
        Elf data = new Elf();
        data.global("d", data.data(1), 0);
        Bench.add(x, data);
        Bench.due("link", x.link(true), 0);
        Bench.due("nothing is reached", x.look(2), 64);
        Bench.due("no kept sections", x.look(6), 0);
        Bench.due("d", Bench.address(x, "d"), 0);
        Bench.add(x, elf);
        Bench.due("names count as ever", x.link(true), 1);
    }

    private static void strings() {
        Elf elf = new Elf();
        int text = elf.text(new int[8]);
        int used = elf.strings("used\0");
        int idle = elf.strings("idle\0");
        elf.global("_start", text, 0);
        int local = elf.local(3, used, 0);
        elf.global("idle", idle, 0);
        elf.site(elf.sites(text), 0, 1, local, 1);
        LinkHouse x = Bench.house(elf);
        x.link(false);
        Bench.due("both", x.look(14), 10);
        x.link(true);
        Bench.due("one", x.look(14), 5);
        Bench.due("the site", x.out((int) x.out(64 + 8)), x.place(1) + 1);
        Bench.due("idle", Bench.address(x, "idle"), 0);
    }
}
