import java.util.NoSuchElementException;
import java.util.Random;

/** Random calls, good and damaged files: nothing but the document's exceptions ever comes out. */
final class RandomCallsTest {
    private static final int RUNS = 600;
    private static final int STEPS = 60;
    /** What an object is made for. */
    private static final int CALLS = 512;
    private static final long[] ODD = {0, 1, 2, 3, 4, 8, 16, 17, 24, 25, 63, 64, 255, 0xfff1,
        0xfff2, 16384, 16385, 65536, 1L << 31, 0xffffffffL, 1L << 47, Long.MIN_VALUE, -1, -8};

    private final Random random;
    private LinkHouse house;
    private int calls;

    private RandomCallsTest(long seed) {
        random = new Random(seed);
    }

    public static void main(String[] args) {
        for (int run = 0; run < RUNS; run++) {
            RandomCallsTest test = new RandomCallsTest(run);
            test.house = new LinkHouse();
            for (int k = 0; k < STEPS; k++) {
                test.step(run);
            }
        }
        Bench.end();
    }

    private void step(int run) {
        int call = random.nextInt(32);
        String got = "";
        try {
            act(call);
        } catch (IllegalArgumentException | IllegalStateException | NoSuchElementException e) {
            got = e.getClass() == IllegalArgumentException.class
                    || e.getClass() == IllegalStateException.class
                    || e.getClass() == NoSuchElementException.class ? "" : e.toString();
        } catch (RuntimeException e) {
            got = e.toString();
        }
        Bench.due("run " + run + " call " + call + " throws", got, "");
    }

    private int small() {
        return random.nextInt(12) - 2;
    }

    private long odd() {
        return ODD[random.nextInt(ODD.length)];
    }

    /** Whether so many calls more may be made; they count then. */
    private boolean may(int more) {
        if (calls + more > CALLS) {
            return false;
        }
        calls += more;
        return true;
    }

    private void addFile() {
        byte[] file = file();
        if (may(file.length / 8 + 2)) {
            Bench.add(house, file);
        }
    }

    private void act(int call) {
        if (!may(4)) {
            return;
        }
        switch (call) {
            case 0: house.feed(small(), random.nextLong()); break;
            case 1: case 2: case 3: case 4: case 5: addFile(); break;
            case 6: house.drop(); break;
            case 7: case 8: case 9: house.link(random.nextBoolean()); break;
            case 10: case 11: house.merge(); break;
            case 12: Bench.give(house, name(), odd()); break;
            case 13: Bench.wish(house, name()); break;
            case 14: house.forget(); break;
            case 15: house.pack(); break;
            case 16: house.named(); break;
            case 17: house.near(0x400000 + random.nextInt(0x3000)); break;
            case 18: house.list(small(), small()); break;
            case 19: house.sum(small(), small(), small()); break;
            case 20: house.map(); break;
            case 21: Bench.address(house, name()); break;
            case 22: house.taken(small(), small()); break;
            case 23: house.cause(small(), small()); break;
            case 24: house.section(small(), small()); break;
            case 25: house.place(small()); break;
            case 26: house.boot(false); break;
            case 27: bootDamaged(); break;
            case 28: house.peek(odd()); break;
            case 29: house.flags(0x400000 + random.nextInt(0x3000)); break;
            case 30: house.out((int) odd()); break;
            default: house.look(small() + random.nextInt(12)); break;
        }
    }

    private String name() {
        String[] names = {"_start", "a", "b", "c", "_end", "__bss_start", "", "a\0",
            "a23456789012345678901", "sign"};
        return names[random.nextInt(names.length)];
    }

    private void bootDamaged() {
        if (may((int) house.look(2) / 4 + 4)) {
            Bench.feed(house, damaged(Bench.out(house)));
            house.boot(true);
        }
    }

    private byte[] damaged(byte[] file) {
        byte[] b = file.clone();
        for (int k = random.nextInt(3); k > 0 && b.length > 64; k--) {
            int at = random.nextBoolean() ? random.nextInt(b.length - 8)
                    : random.nextInt(b.length / 8 - 1) * 8;
            Bench.set(b, at, 1 << random.nextInt(4), odd());
        }
        return b;
    }

    private byte[] file() {
        if (random.nextInt(4) > 0) {
            return damaged(object().build());
        }
        byte[][] members = new byte[random.nextInt(4)][];
        for (int k = 0; k < members.length; k++) {
            members[k] = Bench.member(random.nextInt(5) == 0 ? "/" : "m/", object().build());
        }
        byte[] archive = Bench.archive(members);
        return random.nextInt(3) == 0 ? damaged(archive) : archive;
    }

    private Elf object() {
        Elf elf = new Elf();
        int kept = 1 + random.nextInt(4);
        for (int k = 0; k < kept; k++) {
            section(elf);
        }
        int symbols = random.nextInt(6);
        for (int j = 0; j < symbols; j++) {
            int where = new int[] {0, 1, 1 + random.nextInt(kept), Elf.FIXED, Elf.COMMON}
                    [random.nextInt(5)];
            int bind = where == Elf.COMMON ? 1 : random.nextInt(3);
            elf.symbol("" + "abc_".charAt(random.nextInt(4)), bind, random.nextInt(4), where,
                    1 << random.nextInt(8), random.nextInt(20));
        }
        if (random.nextBoolean()) {
            elf.weak("_start", 1, 0);
        }
        for (int k = random.nextInt(3); k > 0; k--) {
            int sites = elf.sites(1 + random.nextInt(kept));
            int how = new int[] {0, 1, 2, 4, 9, 10, 11, 18, 22, 23, 41, 42}[random.nextInt(12)];
            elf.site(sites, random.nextInt(24), how, random.nextInt(symbols + 1), -4);
        }
        return elf;
    }

    private void section(Elf elf) {
        int align = 1 << random.nextInt(13);
        switch (random.nextInt(6)) {
            case 0: elf.section(1, Elf.TEXT, align, new byte[32]); break;
            case 1: elf.section(1, Elf.DATA, align, new byte[random.nextInt(40)]); break;
            case 2: elf.strings("abc\0bc\0\0d\0"); break;
            case 3: elf.zeros(Elf.DATA, align, random.nextInt(16385)); break;
            case 4: elf.section(1, Elf.THREADS, align, new byte[random.nextInt(9)]); break;
            default: elf.zeros(Elf.THREADS, align, random.nextInt(100)); break;
        }
    }
}
