/** Promise 10 pack. */
final class PackTest {
    public static void main(String[] args) {
        none();
        several();
        again();
        tooMany();
        Bench.end();
    }

    private static byte[] highest(int v) {
        return Bench.bytes(v >>> 24, v >>> 16, v >>> 8, v);
    }

    private static void none() {
        LinkHouse x = new LinkHouse();
        byte[] want = Bench.archive(Bench.member("/", highest(0)));
        Bench.due("pack", x.pack(), want.length);
        Bench.due("OUT", Bench.out(x), want);
    }

    private static void several() {
        Elf first = Elf.program();
        first.local(0, 1, 0);
        first.undefined("u");
        first.weak("weak", Elf.FIXED, 1);
        byte[] a = first.build();
        a = a.length % 2 == 1 ? a : Bench.join(a, Bench.bytes(0));
        Elf second = new Elf();
        second.common("com", 4, 4);
        byte[] b = second.build();
        LinkHouse x = new LinkHouse();
        Bench.due("add", Bench.add(x, a), 0);
        Bench.due("add", Bench.add(x, Bench.archive(Bench.member("/", new byte[1]),
                Bench.member("b/", b))), 0);
        String names = "_start\0weak\0com\0";
        int start = 8 + 60 + 4 + 12 + names.length();
        int next = start + 60 + a.length + 1;
        byte[] index = Bench.join(highest(3), highest(start), highest(start), highest(next),
                Bench.latin(names));
        byte[] want = Bench.archive(Bench.member("/", index), Bench.member("o0/", a),
                Bench.member("o1/", b));
        Bench.due("pack", x.pack(), want.length);
        Bench.due("OUT", Bench.out(x), want);
    }

    private static void again() {
        Elf odd = Elf.program();
        odd.weak("fifth", Elf.FIXED, 1);
        LinkHouse x = Bench.house(odd);
        int n = x.pack();
        Bench.due("behind the 25 bytes of the index", x.out(8 + 60 + 25) & 255, 10);
        Bench.due("where the object's 60 bytes begin", x.out(8 + 60 + 7) & 255, 94);
        Bench.due("there they are", x.out(94) & 0xffffff, 0x2f306f);
        byte[] packed = Bench.out(x);
        Bench.due("bytes", packed.length, n);
        x.drop();
        Bench.due("it is an archive", Bench.add(x, packed), 0);
        Bench.wish(x, "fifth");
        Bench.due("link", x.link(false), 0);
        Bench.due("member 1 is the object", x.taken(0, 1), true);
    }

    private static void tooMany() {
        LinkHouse x = new LinkHouse();
        byte[] small = new Elf().build();
        byte[][] seven = new byte[7][];
        for (int k = 0; k < 7; k++) {
            seven[k] = Bench.member("m/", small);
        }
        Bench.due("add", Bench.add(x, Bench.archive(seven)), 0);
        int n = x.pack();
        Bench.due("seven", n > 7 * small.length, true);
        Bench.due("add", Bench.add(x, small), 0);
        Bench.due("eight", x.pack(), -1);
        Bench.due("OUT stays", x.look(2), n);
    }
}
