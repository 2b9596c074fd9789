import java.util.ArrayList;
import java.util.Arrays;
import java.util.List;

/** Builds an object: sections, symbols and sites in the order in which they are told. */
final class Elf {
    static final int ALLOC = 2;
    static final int TEXT = 6;
    static final int DATA = 3;
    static final int STRINGS = 0x32;
    static final int THREADS = 0x403;
    static final int LOCAL = 0;
    static final int GLOBAL = 1;
    static final int WEAK = 2;
    static final int FIXED = 0xfff1;
    static final int COMMON = 0xfff2;
    /** Offsets in a section's row; TYPE, LINK and INFO have 4 bytes, the others 8. */
    static final int TYPE = 4;
    static final int FLAGS = 8;
    static final int PLACE = 24;
    static final int SIZE = 32;
    static final int LINK = 40;
    static final int INFO = 44;
    static final int ALIGN = 48;

    private static final class Section {
        long type;
        long flags;
        byte[] bytes = new byte[0];
        long size;
        long link;
        long info;
        long align = 1;
        long place = -1;
        boolean shared;
    }

    private final List<Section> sections = new ArrayList<>();
    private final List<byte[]> symbols = new ArrayList<>();
    private final StringBuilder names = new StringBuilder("\0");
    private int symbolsAt = 0;

    Elf() {
        sections.add(new Section());
    }

    /** A section of a type with bytes; its number. */
    int section(long type, long flags, long align, byte[] bytes) {
        Section s = new Section();
        s.type = type;
        s.flags = flags;
        s.align = align;
        s.bytes = bytes;
        s.size = bytes.length;
        sections.add(s);
        return sections.size() - 1;
    }

    int text(int... code) {
        return section(1, TEXT, 1, Bench.bytes(code));
    }

    int data(int... values) {
        return section(1, DATA, 1, Bench.bytes(values));
    }

    int readOnly(int... values) {
        return section(1, ALLOC, 1, Bench.bytes(values));
    }

    int strings(String text) {
        return section(1, STRINGS, 1, Bench.latin(text));
    }

    /** A section without bytes (of type 8). */
    int zeros(long flags, long align, long size) {
        int i = section(8, flags, align, new byte[0]);
        sections.get(i).size = size;
        return i;
    }

    /**
     * A section whose bytes are those behind the head, whatever lies there: objects of few bytes
     * have large sections so, and 512 calls are enough.
     */
    int shared(long flags, long align, long size) {
        int i = section(1, flags, align, new byte[0]);
        sections.get(i).size = size;
        sections.get(i).shared = true;
        return i;
    }

    /** A section of sites for a target; site() fills it. */
    int sites(int target) {
        int i = section(4, 0, 8, new byte[0]);
        sections.get(i).info = target;
        sections.get(i).link = -1;
        return i;
    }

    Elf site(int i, long place, int how, int symbol, long a) {
        byte[] row = new byte[24];
        Bench.set(row, 0, 8, place);
        Bench.set(row, 8, 4, how);
        Bench.set(row, 12, 4, symbol);
        Bench.set(row, 16, 8, a);
        Section s = sections.get(i);
        s.bytes = Bench.join(s.bytes, row);
        s.size = s.bytes.length;
        return this;
    }

    /** A group with a signature's symbol, FLAGS and numbers of sections. */
    int group(int symbol, int flags, int... numbers) {
        byte[] bytes = new byte[4 + 4 * numbers.length];
        Bench.set(bytes, 0, 4, flags);
        for (int k = 0; k < numbers.length; k++) {
            Bench.set(bytes, 4 + 4 * k, 4, numbers[k]);
        }
        int i = section(17, 0, 4, bytes);
        sections.get(i).info = symbol;
        sections.get(i).link = -1;
        return i;
    }

    /** A symbol; its number. Its name is written only when it is not local. */
    int symbol(String name, int bind, int kind, int where, long value, long size) {
        int at = bind == LOCAL ? 0 : nameText(name);
        return symbolAt(at, bind, kind, where, value, size);
    }

    /** Writes a text and a 0 behind the names; where it begins. */
    int nameText(String text) {
        names.append(text).append('\0');
        return names.length() - text.length() - 1;
    }

    /** A symbol whose name begins at a place among the names; its number. */
    int symbolAt(int name, int bind, int kind, int where, long value, long size) {
        if (symbols.isEmpty()) {
            symbols.add(new byte[24]);
        }
        byte[] row = new byte[24];
        Bench.set(row, 0, 4, name);
        row[4] = (byte) (16 * bind + kind);
        Bench.set(row, 6, 2, where);
        Bench.set(row, 8, 8, value);
        Bench.set(row, 16, 8, size);
        symbols.add(row);
        return symbols.size() - 1;
    }

    int global(String name, int where, long value) {
        return symbol(name, GLOBAL, 0, where, value, 0);
    }

    int weak(String name, int where, long value) {
        return symbol(name, WEAK, 0, where, value, 0);
    }

    int undefined(String name) {
        return symbol(name, GLOBAL, 0, 0, 0, 0);
    }

    int common(String name, long align, long size) {
        return symbol(name, GLOBAL, 1, COMMON, align, size);
    }

    int local(int kind, int where, long value) {
        return symbol("", LOCAL, kind, where, value, 0);
    }

    int count() {
        return sections.size();
    }

    /** The number that the symbols' section has once the object is built. */
    int symbolsSection() {
        closeSymbols();
        return symbolsAt;
    }

    private void closeSymbols() {
        if (symbolsAt != 0) {
            return;
        }
        if (symbols.isEmpty()) {
            symbols.add(new byte[24]);
        }
        symbolsAt = section(2, 0, 8, new byte[0]);
        int namesAt = section(3, 0, 1, new byte[0]);
        sections.get(symbolsAt).link = namesAt;
    }

    byte[] build() {
        closeSymbols();
        Section table = sections.get(symbolsAt);
        table.bytes = Bench.join(symbols.toArray(new byte[0][]));
        table.size = table.bytes.length;
        Section text = sections.get((int) table.link);
        text.bytes = Bench.latin(names.toString());
        text.size = text.bytes.length;
        byte[] body = new byte[64];
        for (Section s : sections) {
            s.place = s.shared ? 64 : body.length;
            body = Bench.join(body, s.bytes);
        }
        int rows = body.length;
        for (Section s : sections) {
            body = Bench.join(body, row(s));
        }
        for (Section s : sections) {
            long end = s.shared ? s.place + s.size : 0;
            body = end > body.length ? Arrays.copyOf(body, (int) end) : body;
        }
        head(body, rows);
        return body;
    }

    private byte[] row(Section s) {
        byte[] row = new byte[64];
        Bench.set(row, 4, 4, s.type);
        Bench.set(row, 8, 8, s.flags);
        Bench.set(row, 24, 8, s.place);
        Bench.set(row, 32, 8, s.size);
        Bench.set(row, 40, 4, s.link == -1 ? symbolsAt : s.link);
        Bench.set(row, 44, 4, s.info);
        Bench.set(row, 48, 8, s.align);
        return row;
    }

    private void head(byte[] body, int rows) {
        byte[] magic = Bench.bytes(0x7f, 0x45, 0x4c, 0x46, 2, 1, 1);
        System.arraycopy(magic, 0, body, 0, magic.length);
        Bench.set(body, 16, 2, 1);
        Bench.set(body, 18, 2, 62);
        Bench.set(body, 20, 4, 1);
        Bench.set(body, 40, 8, rows);
        Bench.set(body, 52, 2, 64);
        Bench.set(body, 58, 2, 64);
        Bench.set(body, 60, 2, sections.size());
    }

    /** Where the row of section i begins in what build() made. */
    static int rowOf(byte[] built, int i) {
        return (int) Bench.num(built, 40, 8) + 64 * i;
    }

    /** A copy of what build() made with another number in the row of section i. */
    static byte[] withRow(byte[] built, int i, int field, long v) {
        boolean wide = field != TYPE && field != LINK && field != INFO;
        return Bench.with(built, rowOf(built, i) + field, wide ? 8 : 4, v);
    }

    /** Where the bytes of section i begin in what build() made. */
    static int placeOf(byte[] built, int i) {
        return (int) Bench.num(built, rowOf(built, i) + PLACE, 8);
    }

    /** A small program: _start in 2 bytes of text. */
    static Elf program() {
        Elf elf = new Elf();
        elf.global("_start", elf.text(0x90, 0xc3), 0);
        return elf;
    }
}
