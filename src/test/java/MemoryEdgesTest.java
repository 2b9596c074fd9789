import java.util.Arrays;

/** Promises 12, 21, 22, 23 and 25 at their limits: executables, their memory and its names. */
final class MemoryEdgesTest {
    private static final int ROW = Exe.ROW;

    public static void main(String[] args) {
        wholeHead();
        wholeRows();
        exactEnds();
        rowsBehindTheLast();
        earlierRows();
        addresses();
        eightRows();
        emptyRows();
        zerosBehindFile();
        entries();
        farAddresses();
        wholeNames();
        freeBytesOfNames();
        nameSections();
        nameRows();
        firstSymbol();
        namesGo();
        symbolsEnd();
        nearest();
        looks();
        Bench.end();
    }

    private static void due(String what, byte[] executable, int want) {
        LinkHouse x = new LinkHouse();
        Bench.feed(x, executable);
        Bench.due(what, x.boot(true), want);
        Bench.due(what + ": the tape is used up", x.look(1), 0);
        Bench.due(what + ": look 11", x.look(11), want);
        Bench.due(what + ": memory", x.look(9) > 0, want == 0);
    }

    private static LinkHouse booted(byte[] executable) {
        LinkHouse x = new LinkHouse();
        Bench.feed(x, executable);
        Bench.due("boot", x.boot(true), 0);
        return x;
    }

    private static byte[] withByte(byte[] b, int at) {
        return Bench.with(b, at, 1, b[at] ^ 1);
    }

    private static void wholeHead() {
        byte[] good = Exe.good();
        for (int at : new int[] {0, 1, 2, 3, 4, 5, 6, 16, 17, 18, 19, 20, 21, 22, 23, 54, 55}) {
            due("byte " + at + " of the head", withByte(good, at), 1);
        }
        for (int at : new int[] {7, 15, 40, 47, 48, 51, 52, 53, 58, 59, 60, 61, 62, 63}) {
            due("byte " + at + " is free", withByte(good, at), 0);
        }
        for (int at = 33; at < 40; at++) {
            due("where the rows begin, byte " + at, withByte(good, at), 2);
        }
        due("how many rows, its second byte", withByte(good, 57), 2);
        for (int at = 25; at < 32; at++) {
            due("ENTRY, byte " + at, withByte(good, at), 6);
        }
        due("no byte", new byte[0], 1);
        due("64 bytes of which rows are missing", Arrays.copyOf(good, 64), 2);
    }

    private static void wholeRows() {
        byte[] good = Exe.good();
        int row = ROW + 112;
        for (int k = 1; k < 4; k++) {
            due("TYPE, byte " + k + ": it is not loaded", withByte(withByte(good, row + k), row
                    + 33), 0);
        }
        for (int k = 1; k < 8; k++) {
            due("PLACE, byte " + k, withByte(good, row + 8 + k), 3);
            due("FILE, byte " + k, withByte(good, row + 32 + k), 3);
        }
        for (int k = 2; k < 8; k++) {
            due("MEMORY, byte " + k, withByte(good, row + 40 + k), 4);
            due("ALIGN, byte " + k, withByte(good, row + 48 + k), 4);
        }
        for (int k = 6; k < 8; k++) {
            due("ADDRESS, byte " + k, withByte(good, row + 16 + k), 4);
        }
        for (int k = 24; k < 32; k++) {
            due("byte " + k + " of a row is free", withByte(good, row + k), 0);
        }
        LinkHouse x = booted(Bench.with(good, row + 4, 4, 0x80000000L));
        Bench.due("FLAGS are unsigned", x.flags(0x2000), 0x80000000L);
        x = booted(Bench.with(good, row + 4, 4, 0));
        Bench.due("FLAGS 0", x.flags(0x2000), 0);
    }

    private static void exactEnds() {
        byte[] good = Exe.good();
        int row = ROW + 112;
        due("FILE up to the last byte", good, 0);
        due("one byte less", Arrays.copyOf(good, good.length - 1), 3);
        byte[] wrapped = Bench.with(good, row + 8, 8, -4);
        due("PLACE and FILE wrap around", Bench.with(wrapped, row + 32, 8, 8), 3);
        byte[] atEnd = Bench.join(Arrays.copyOf(good, 64), Arrays.copyOfRange(good, 232, 238),
                Arrays.copyOfRange(good, 64, 232));
        Bench.set(atEnd, 32, 8, 70);
        Bench.set(atEnd, 70 + 56 + 8, 8, 64);
        Bench.set(atEnd, 70 + 112 + 8, 8, 68);
        due("rows up to the last byte", atEnd, 0);
        due("one byte less", Arrays.copyOf(atEnd, atEnd.length - 1), 2);
        due("rows from above all", Bench.with(good, 32, 8, -1), 2);
        due("rows from within the head on", Bench.with(good, 32, 8, 8), 0);
    }

    /** What lies behind the last row is none. */
    private static void rowsBehindTheLast() {
        byte[] fewer = Bench.with(Exe.good(), 56, 2, 2);
        LinkHouse x = booted(Bench.with(fewer, ROW + 112 + 32, 8, -1));
        Bench.due("one loaded row", x.look(9), 1);
        Bench.due("no byte of the other", x.peek(0x2000), -1);
        x = booted(Bench.with(fewer, 58, 2, 64));
        Bench.due("one loaded row, whatever is at 58", x.look(9), 1);
        byte[] none = Bench.with(Exe.good(), 56, 2, 1);
        due("no loaded row", none, 6);
        for (int k = 1; k < 4; k++) {
            x = booted(withByte(Exe.good(), ROW + 112 + k));
            Bench.due("a row whose TYPE is not 1 in its byte " + k, x.look(9), 1);
            Bench.due("is not in memory", x.peek(0x2000), -1);
        }
    }

    /** What an earlier executable had is gone, also its row behind the last one now. */
    private static void earlierRows() {
        LinkHouse x = booted(Exe.good());
        Bench.feed(x, Bench.with(Exe.good(), 56, 2, 2));
        Bench.due("boot", x.boot(true), 0);
        Bench.due("the second row is gone", x.peek(0x2000), -1);
        Bench.due("and its FLAGS", x.flags(0x2000), -1);
        Bench.due("the first one is there", x.peek(0x1003), 4);
    }

    private static void addresses() {
        byte[] good = Exe.good();
        int row = ROW + 112;
        byte[] high = Bench.with(Bench.with(good, row + 16, 8, 1L << 47), row + 40, 8, 65536);
        LinkHouse x = booted(high);
        Bench.due("ADDRESS 2^47", x.peek(1L << 47), 5);
        Bench.due("its last byte", x.peek((1L << 47) + 65535), 0);
        Bench.due("behind it", x.peek((1L << 47) + 65536), -1);
        due("ADDRESS above", Bench.with(Bench.with(high, row + 16, 8, (1L << 47) + 1), row + 48, 8,
                0), 4);
        due("ADDRESS with the highest bit", Bench.with(high, row + 16, 8, 1L << 63), 4);
        byte[] low = Bench.with(Bench.with(good, ROW + 56 + 16, 8, 0), 24, 8, 3);
        x = booted(low);
        Bench.due("ADDRESS 0", x.peek(0), 1);
        Bench.due("ENTRY", x.look(10), 3);
        for (long align = 1; align != 0; align <<= 1) {
            byte[] b = Bench.with(low, ROW + 56 + 48, 8, align);
            due("ALIGN " + align, b, 232 % align == 0 && align > 0 ? 0 : 4);
            due("no power", Bench.with(b, ROW + 56 + 48, 8, align | 1L << 62 | 4), 4);
        }
        byte[] same = Bench.with(Bench.with(low, ROW + 56 + 16, 8, 232), 24, 8, 232);
        for (long align = 1; align != 0; align <<= 1) {
            due("the same modulo " + align, Bench.with(same, ROW + 56 + 48, 8, align), 0);
        }
        due("MEMORY is FILE", Bench.with(good, row + 40, 8, 2), 0);
        due("one less", Bench.with(good, row + 40, 8, 1), 4);
    }

    private static byte[] eight() {
        byte[] b = Arrays.copyOf(Exe.good(), 64 + 8 * 56 + 16);
        Bench.set(b, 56, 2, 8);
        for (int k = 0; k < 8; k++) {
            Exe.row(b, k, k, 512 + 2 * k, 0x1000 + 2 * k, 2, 2, 0);
            Bench.set(b, 512 + 2 * k, 2, 0x0101 * (k + 1));
        }
        Bench.set(b, 24, 8, 0x100f);
        return b;
    }

    private static void eightRows() {
        LinkHouse x = booted(eight());
        Bench.due("loaded rows", x.look(9), 8);
        for (int k = 0; k < 8; k++) {
            Bench.due("first byte of row " + k, x.peek(0x1000 + 2 * k), k + 1);
            Bench.due("last byte of row " + k, x.peek(0x1001 + 2 * k), k + 1);
            Bench.due("its FLAGS", x.flags(0x1001 + 2 * k), k);
        }
        Bench.due("behind the last", x.peek(0x1010), -1);
        Bench.feed(x, Bench.with(Exe.good(), 56, 2, 2));
        Bench.due("boot", x.boot(true), 0);
        Bench.due("one row", x.look(9), 1);
        for (int k = 2; k < 8; k++) {
            Bench.due("the rows before are gone", x.peek(0x1000 + 2 * k), -1);
            Bench.due("and their FLAGS", x.flags(0x1000 + 2 * k), -1);
        }
        byte[] nine = Arrays.copyOf(eight(), 1000);
        due("9 rows, of which 8 are loaded", Bench.with(nine, 56, 2, 9), 2);
        byte[] wrong = eight();
        Exe.row(wrong, 7, 1, 526, 0x100d, 2, 2, 0);
        due("the eighth is below the seventh's end", wrong, 5);
    }

    private static void emptyRows() {
        byte[] b = eight();
        Exe.row(b, 3, 0, 520, 0x1006, 0, 0, 0);
        Exe.row(b, 4, 0, 520, 0x1006, 2, 2, 0);
        LinkHouse x = booted(b);
        Bench.due("a row without bytes is loaded", x.look(9), 8);
        Bench.due("the byte there is the next one's", x.flags(0x1006), 0);
        byte[] alone = Bench.with(Exe.good(), ROW + 56 + 40, 8, 0);
        alone = Bench.with(alone, ROW + 56 + 32, 8, 0);
        due("ENTRY in a row without bytes", Bench.with(alone, 24, 8, 0x1000), 6);
    }

    /** Behind FILE come 0s, whatever the executable has there. */
    private static void zerosBehindFile() {
        byte[] b = Bench.with(Exe.good(), ROW + 56 + 32, 8, 1);
        LinkHouse x = booted(b);
        int[] due = {1, 0, 0, 0};
        for (int k = 0; k < 4; k++) {
            Bench.due("byte " + k, x.peek(0x1000 + k), due[k]);
        }
        b = Bench.with(Exe.good(), ROW + 56 + 32, 8, 0);
        Bench.due("no file bytes", booted(b).peek(0x1000), 0);
    }

    private static void entries() {
        byte[] good = Exe.good();
        due("ENTRY above all", Bench.with(good, 24, 8, -1), 6);
        due("ENTRY and the highest bit", Bench.with(good, 24, 8, Long.MIN_VALUE + 0x1001), 6);
        due("ENTRY at a row's begin and the highest bit", Bench.with(good, 24, 8,
                Long.MIN_VALUE + 0x1000), 6);
        due("FLAGS 4", Bench.with(good, ROW + 56 + 4, 4, 4), 6);
        due("FLAGS 1", Bench.with(good, ROW + 56 + 4, 4, 1), 0);
        due("FLAGS with bit 0 and the highest", Bench.with(good, ROW + 56 + 4, 4, 0x80000001L), 0);
        due("only a later row has ENTRY", Bench.with(Bench.with(good, 24, 8, 0x2000), ROW + 112
                + 4, 4, 1), 0);
    }

    private static void farAddresses() {
        LinkHouse x = booted(Exe.named());
        long[] far = {0xfff, 0x1004, 0x1fff, 0x200a, 0, -1, Long.MIN_VALUE, Long.MAX_VALUE,
            Long.MIN_VALUE + 0x1000, Long.MIN_VALUE + 0x1001, Long.MIN_VALUE + 0x2000,
            0x100001000L, 1L << 47};
        for (long address : far) {
            Bench.due("peek " + address, x.peek(address), -1);
            Bench.due("flags " + address, x.flags(address), -1);
            Bench.due("near " + address, x.near(address), -1);
        }
        Bench.due("OUT stays", x.look(2), 0);
    }

    private static void dueNames(String what, byte[] executable, long want) {
        Bench.due(what, booted(executable).look(18), want);
    }

    private static void wholeNames() {
        byte[] good = Exe.named();
        int table = Elf.placeOf(good, 2);
        int first = table + 24;
        dueNames("good", good, 4);
        for (int k = 1; k < 4; k++) {
            dueNames("the name's place, byte " + k, withByte(good, first + k), 3);
        }
        dueNames("BIND 0 with a KIND", Bench.with(good, first + 4, 1, 0x0f), 3);
        dueNames("BIND 2 with a KIND", Bench.with(good, first + 4, 1, 0x2f), 4);
        dueNames("BIND 3", Bench.with(good, first + 4, 1, 0x30), 3);
        dueNames("BIND 15", Bench.with(good, first + 4, 1, 0xff), 3);
        dueNames("WHERE 0x100", Bench.with(good, first + 6, 2, 0x100), 4);
        byte[] none = Bench.with(good, first + 6, 2, 0);
        dueNames("WHERE 0", none, 3);
        dueNames("WHERE 0 and a byte at 5", Bench.with(none, first + 5, 1, 9), 3);
        dueNames("WHERE 0 and a VALUE", Bench.with(none, first + 8, 8, 0x1001), 3);
        dueNames("WHERE 0xffff", Bench.with(good, first + 6, 2, 0xffff), 4);
        for (int at : new int[] {59, 61, 42, 47}) {
            dueNames("the head's byte " + at, withByte(good, at), 0);
        }
        int[] rows = {Elf.rowOf(good, 2), Elf.rowOf(good, 1)};
        for (int row : rows) {
            dueNames("TYPE, its highest byte", withByte(good, row + 7), 0);
            dueNames("PLACE, its highest byte", withByte(good, row + 31), 0);
            dueNames("SIZE, its highest byte", withByte(good, row + 39), 0);
        }
        dueNames("LINK, its highest byte", withByte(good, rows[0] + 43), 0);
    }

    /** Bytes of the rows of sections and of symbols that the document does not tell of. */
    private static void freeBytesOfNames() {
        byte[] b = Exe.named();
        for (int i = 0; i < 3; i++) {
            int row = Elf.rowOf(b, i);
            Arrays.fill(b, row, row + 4, (byte) 0xff);
            Arrays.fill(b, row + 8, row + 24, (byte) 0xff);
            Arrays.fill(b, row + 44, row + 64, (byte) 0xff);
        }
        int from = Elf.placeOf(b, 2);
        for (int at = from; at < Elf.rowOf(b, 0); at += 24) {
            b[at + 5] = (byte) 0xff;
            Arrays.fill(b, at + 16, at + 24, (byte) 0xff);
        }
        Arrays.fill(b, from, from + 24, (byte) 0xff);
        Bench.set(b, 62, 2, 0xffff);
        LinkHouse x = booted(b);
        Bench.due("names", x.look(18), 4);
        Bench.due("near", x.near(0x1002), 0);
        Bench.due("its name", Bench.outText(x), "bc");
        byte[] good = Exe.named();
        byte[] four = Bench.with(Bench.join(good, new byte[64]), 60, 2, 4);
        int table = Elf.rowOf(good, 2);
        System.arraycopy(good, table, four, table + 64, 64);
        dueNames("TYPE 0x01000002 is not 2", withByte(four, table + 7), 4);
    }

    /** Both sections' bytes have to lie in it. */
    private static void nameSections() {
        byte[] good = Exe.named();
        int text = Elf.rowOf(good, 1);
        int table = Elf.rowOf(good, 2);
        int places = Elf.placeOf(good, 2);
        long rest = good.length - Elf.placeOf(good, 1);
        dueNames("names up to the last byte, so one more ends",
                Bench.with(good, text + 32, 8, rest), 5);
        dueNames("names one too far", Bench.with(good, text + 32, 8, rest + 1), 0);
        int room = (good.length - places) / 24;
        byte[] padded = Bench.join(good, new byte[24 * (room + 1) - (good.length - places)]);
        byte[] longer = Bench.with(padded, table + 32, 8, 24 * (room + 1));
        LinkHouse x = booted(longer);
        Bench.due("symbols up to the last byte", x.look(18) >= 4, true);
        dueNames("symbols one too far", Arrays.copyOf(longer, longer.length - 1), 0);
        dueNames("23 bytes of symbols", Bench.with(good, table + 32, 8, 23), 0);
        dueNames("25 bytes of symbols", Bench.with(good, table + 32, 8, 25), 0);
        dueNames("no names", Bench.with(good, text + 32, 8, 0), 0);
        dueNames("names without a 0 in SIZE", Bench.with(good, text + 32, 8, 2), 0);
        dueNames("SIZE just takes the first 0", Bench.with(good, text + 32, 8, 3), 1);
        dueNames("no names at the end", Bench.with(Bench.with(good, text + 32, 8, 0), text + 24,
                8, good.length), 0);
    }

    private static void nameRows() {
        byte[] good = Exe.named();
        byte[] four = Bench.join(good, new byte[64]);
        dueNames("4 rows up to the last byte", Bench.with(four, 60, 2, 4), 4);
        dueNames("the fourth is not whole", Bench.with(Arrays.copyOf(four, four.length - 1), 60, 2,
                4), 0);
        dueNames("25 rows", Bench.with(Arrays.copyOf(good, 4000), 60, 2, 25), 0);
        dueNames("24 rows", Bench.with(Arrays.copyOf(good, 4000), 60, 2, 24), 4);
        dueNames("one row", Bench.with(good, 60, 2, 1), 0);
        dueNames("two rows", Bench.with(good, 60, 2, 2), 0);
        byte[] second = Bench.with(four, 60, 2, 4);
        int table = Elf.rowOf(good, 2);
        System.arraycopy(good, table, second, table + 64, 64);
        dueNames("of two of type 2 the first counts", Bench.with(second, table + 32, 8, 48), 1);
        dueNames("even if it has none", Bench.with(second, table + 32, 8, 0), 0);
        dueNames("LINK to itself", Bench.with(good, table + 40, 4, 2), 0);
        dueNames("LINK to row 0", Bench.with(good, table + 40, 4, 0), 0);
        dueNames("LINK to the row behind the last", Bench.with(good, table + 40, 4, 3), 0);
    }

    private static void firstSymbol() {
        byte[] good = Exe.named();
        int table = Elf.placeOf(good, 2);
        byte[] odd = good.clone();
        System.arraycopy(good, table + 24, odd, table, 24);
        LinkHouse x = booted(odd);
        Bench.due("the first one is no name", x.look(18), 4);
        byte[] alone = Bench.with(odd, table + 24 + 6, 2, 0);
        x = booted(alone);
        Bench.due("names", x.look(18), 3);
        Bench.due("no name that low", x.near(0x1000), -1);
    }

    /** Names come and go with memory. */
    private static void namesGo() {
        byte[] good = Exe.named();
        LinkHouse x = booted(good);
        Bench.feed(x, Bench.with(good, 24, 8, 0));
        Bench.due("a bad one", x.boot(true), 6);
        Bench.due("names stay", x.look(18), 4);
        Bench.due("near", x.near(0x1000), 0);
        Bench.feed(x, Bench.with(good, 58, 2, 0));
        Bench.due("one without names", x.boot(true), 0);
        Bench.due("they are gone", x.look(18), 0);
        Bench.due("near", x.near(0x1000), -1);
        Bench.due("OUT stays", Bench.outText(x), "a");
        Bench.feed(x, good);
        Bench.due("boot", x.boot(true), 0);
        Bench.due("they are there", x.look(18), 4);
    }

    /** A symbol behind the last one is none. */
    private static void symbolsEnd() {
        byte[] good = Exe.named();
        LinkHouse x = booted(Bench.with(good, Elf.rowOf(good, 2) + 32, 8, 48));
        Bench.due("one name", x.look(18), 1);
        Bench.due("near", x.near(0x1003), 3);
        Bench.due("it", Bench.outText(x), "a");
        byte[] many = new byte[24 * 48];
        for (int j = 1; j < 48; j++) {
            System.arraycopy(Exe.symbol(1, 0x10, 1, 0x1000 + j / 24), 0, many, 24 * j, 24);
        }
        byte[] b = Bench.join(good, many);
        Bench.set(b, Elf.rowOf(good, 2) + 24, 8, good.length);
        Bench.set(b, Elf.rowOf(good, 2) + 32, 8, 24 * 24);
        x = booted(b);
        Bench.due("24 symbols", x.look(18), 23);
        Bench.due("the next one is none", x.near(0x1001), 1);
    }

    private static void nearest() {
        byte[] good = Exe.named();
        int table = Elf.placeOf(good, 2);
        byte[] b = Bench.with(good, table + 24 + 8, 8, -1);
        Bench.set(b, table + 48 + 8, 8, Long.MIN_VALUE);
        LinkHouse x = booted(b);
        Bench.due("values are unsigned", x.near(0x1001), 0);
        Bench.due("c", Bench.outText(x), "c");
        Bench.due("those above count for nothing", x.near(0x1000), -1);
        Bench.due("OUT stays", Bench.outText(x), "c");
        Bench.set(b, table + 24 + 8, 8, 0);
        x = booted(b);
        Bench.due("a value of 0", x.near(0x1000), 0x1000);
        Bench.due("a", Bench.outText(x), "a");
        Bench.set(b, table + 72 + 8, 8, 0);
        x = booted(b);
        Bench.due("of several", x.near(0x1002), 0x1002);
        Bench.due("the first one", Bench.outText(x), "a");
    }

    private static void looks() {
        LinkHouse x = booted(Exe.named());
        Bench.due("loaded rows", x.look(9), 2);
        Bench.due("ENTRY", x.look(10), 0x1001);
        Bench.due("error", x.look(11), 0);
        Bench.due("names", x.look(18), 4);
        x.feed(8, 1);
        Bench.due("a bad tape", x.boot(true), 1);
        Bench.due("the latest error", x.look(11), 1);
        Bench.due("ENTRY stays", x.look(10), 0x1001);
        Bench.due("an empty OUT", x.boot(false), 1);
        Bench.due("an empty tape", x.boot(true), 1);
        Bench.due("rows stay", x.look(9), 2);
        Bench.feed(x, Exe.good());
        Bench.due("a good one", x.boot(true), 0);
        Bench.due("the error is gone", x.look(11), 0);
    }
}
