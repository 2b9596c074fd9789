import java.util.Arrays;
import java.util.NoSuchElementException;

/**
 * A linker: object files and archives are read with every refusal; names resolved by strength,
 * members taken from archives as they are needed, sections laid out in groups, sites filled; an
 * executable with program headers.
 */
public final class LinkHouse {
    private static final int TAPE_LIMIT = 8192;
    private static final int OUT_LIMIT = 65536;
    private static final int ROOM_LIMIT = 65536;
    private static final int FILES = 8;
    private static final int MEMBERS = 8;
    private static final int OBJECTS = FILES * MEMBERS;
    private static final int SECTIONS = 24;
    private static final int SYMBOLS = 64;
    private static final int LISTED = 16;
    private static final int NAMES = OBJECTS * SYMBOLS + 2 * LISTED;
    private static final int NAME_BYTES = 20;
    private static final int LARGEST = 16384;
    private static final int PACKED_OBJECTS = 7;

    private static final byte[] ELF = {0x7f, 0x45, 0x4c, 0x46, 2, 1, 1};
    private static final byte[] ARCHIVE = {0x21, 0x3c, 0x61, 0x72, 0x63, 0x68, 0x3e, 0x0a};

    private static final int FIXED = 0xfff1;
    private static final int COMMON = 0xfff2;

    /** What a place for an object holds: nothing, a file, an archive's object, or its index. */
    private static final int ABSENT = 0;
    private static final int ALONE = 1;
    private static final int MEMBER = 2;
    private static final int INDEX = 3;

    /** Where a name's definition is. */
    private static final int NOWHERE = 0;
    private static final int IN_SECTION = 1;
    private static final int AT_VALUE = 2;
    private static final int IN_COMMON = 3;
    private static final int BY_LINKER = 4;

    /** What a link makes of a section. */
    private static final int UNKEPT = 0;
    private static final int KEPT = 1;
    private static final int DROPPED = 2;

    private static final int GLOBAL = 16;
    private static final int WEAK = 32;
    private static final int[] LAYOUT_ORDER = {0, 1, 4, 5, 2, 3};
    private static final int[] SEGMENT_OF = {0, 1, 2, 2, 2, 2};
    private static final int[] SEGMENT_FLAGS = {5, 4, 6};
    private static final int[] ROW_FLAGS = {6, 2, 3};
    private static final String GROUP_LETTERS = "TRDBDB";
    private static final int SEGMENTS = 3;
    /** The threads' template stands behind the segments in the layout's rows. */
    private static final int TEMPLATE = 3;
    private static final long PAGE = 4096;
    private static final long FIRST_ADDRESS = 0x400000L;
    private static final long HIGHEST_BIT = 1L << 63;

    private final Row tape;
    private Row out;
    private Row draft;
    private final Row store;
    private final ObjectFile[] members;
    private final int[] ends;
    private int files;
    private final int[] marks;
    private final Names given;
    private final Names wished;
    private final Name probe;
    private final Link link;
    private final Pool pool;
    private final Layout layout;
    private final Filler filler;
    private final Scribe scribe;
    private final Memory memory;
    private int bootError;

    public LinkHouse() {
        tape = new Row(TAPE_LIMIT);
        out = new Row(OUT_LIMIT);
        draft = new Row(OUT_LIMIT);
        store = new Row(FILES * TAPE_LIMIT);
        members = new ObjectFile[OBJECTS];
        for (int i = 0; i < members.length; i++) {
            members[i] = new ObjectFile(store, i / MEMBERS, i % MEMBERS);
        }
        ends = new int[FILES + 1];
        marks = new int[TAPE_LIMIT];
        given = new Names(LISTED);
        wished = new Names(LISTED);
        probe = new Name();
        link = new Link(members, given, wished, store);
        pool = new Pool(store);
        layout = new Layout(link, pool);
        filler = new Filler(link, layout, pool, store);
        scribe = new Scribe(link, layout, store);
        memory = new Memory();
    }

    public int feed(int n, long v) throws IllegalArgumentException, IllegalStateException {
        if (n < 1 || n > 8) {
            throw new IllegalArgumentException("n is not 1 .. 8");
        }
        if (tape.size + n > TAPE_LIMIT) {
            throw new IllegalStateException("the tape is full");
        }
        tape.put(n, v);
        return tape.size;
    }

    public int add() throws IllegalStateException {
        if (files >= FILES) {
            throw new IllegalStateException("there are 8 files");
        }
        int error = readFile(files * MEMBERS);
        tape.clear();
        if (error == 0) {
            files++;
            ends[files] = store.size;
        } else {
            clearFile(files);
        }
        return error;
    }

    public int drop() throws IllegalStateException {
        if (files <= 0) {
            throw new IllegalStateException("there is no file");
        }
        files--;
        clearFile(files);
        return files;
    }

    public int link(boolean reached) {
        return runLink(reached);
    }

    public int merge() {
        int answer = runLink(false);
        if (answer == 1) {
            return answer;
        }
        if (!scribe.writeMerged(draft)) {
            return -1;
        }
        publishDraft();
        return answer;
    }

    public int give(long value) throws IllegalArgumentException, IllegalStateException {
        boolean good = readTapeName();
        if (!good) {
            throw new IllegalArgumentException("the tape is no name");
        }
        if (given.find(probe) != null || given.count >= LISTED) {
            throw new IllegalStateException("it is given already, or 16 are");
        }
        given.enter(probe).value = value;
        return given.count;
    }

    public int wish() throws IllegalArgumentException, IllegalStateException {
        boolean good = readTapeName();
        if (!good) {
            throw new IllegalArgumentException("the tape is no name");
        }
        if (wished.find(probe) != null || wished.count >= LISTED) {
            throw new IllegalStateException("it is wished already, or 16 are");
        }
        wished.enter(probe);
        return wished.count;
    }

    public void forget() {
        given.count = 0;
        wished.count = 0;
    }

    public int pack() {
        if (!scribe.writePacked(draft, members)) {
            return -1;
        }
        return publishDraft();
    }

    public int named() throws IllegalStateException {
        if (link.answer != 0) {
            throw new IllegalStateException("the latest link was not done");
        }
        if (!scribe.writeNamed(draft, filler.file)) {
            return -1;
        }
        return publishDraft();
    }

    public long near(long address) {
        int j = memory.rowAt(address) < 0 ? -1 : memory.nearest(address);
        if (j < 0) {
            return -1;
        }
        probe.read(memory.bytes, memory.nameStart(j));
        out.clear();
        probe.writeTo(out);
        return address - memory.valueOf(j);
    }

    public int list(int i, int k) throws NoSuchElementException {
        ObjectFile m = objectAt(i, k);
        if (m == null) {
            throw new NoSuchElementException("no such object");
        }
        scribe.writeList(out, m);
        return out.size;
    }

    public long sum(int i, int k, int group) throws NoSuchElementException {
        ObjectFile m = objectAt(i, k);
        if (m == null || group < 0 || group > 5) {
            throw new NoSuchElementException("no such object, or group");
        }
        long all = 0;
        for (int s = 0; s < m.sections; s++) {
            if (m.groupOf(s) == group) {
                all += m.lengthOf(s);
            }
        }
        return all;
    }

    public int map() throws IllegalStateException {
        if (link.answer != 0) {
            throw new IllegalStateException("the latest link was not done");
        }
        if (!scribe.writeMap(draft)) {
            return -1;
        }
        return publishDraft();
    }

    public long address() throws IllegalStateException {
        if (link.answer != 0) {
            throw new IllegalStateException("the latest link was not done");
        }
        Name n = readTapeName() ? link.names.find(probe) : null;
        return n == null ? -1 : n.address;
    }

    public boolean taken(int i, int k) throws NoSuchElementException {
        ObjectFile m = memberAt(i, k);
        if (m == null) {
            throw new NoSuchElementException("no such file, or member");
        }
        return m.taken;
    }

    public int cause(int i, int k) throws NoSuchElementException {
        ObjectFile m = memberAt(i, k);
        if (m == null) {
            throw new NoSuchElementException("no such file, or member");
        }
        if (m.cause == 0) {
            return 0;
        }
        probe.read(store, m.nameStart(m.cause));
        out.clear();
        probe.writeTo(out);
        return out.size;
    }

    public int section(int i, int what) throws IllegalStateException, NoSuchElementException {
        if (link.answer != 0) {
            throw new IllegalStateException("the latest link was not done");
        }
        if (i < 0 || i >= layout.count || what < 0 || what > 4) {
            throw new NoSuchElementException("no such section, or no such what");
        }
        Part p = layout.partAt(i);
        switch (what) {
            case 0: return p.file;
            case 1: return p.member;
            case 2: return p.number;
            case 3: return p.group;
            default: return p.size;
        }
    }

    public long place(int i) throws IllegalStateException, NoSuchElementException {
        if (link.answer != 0) {
            throw new IllegalStateException("the latest link was not done");
        }
        if (i < 0 || i >= layout.count) {
            throw new NoSuchElementException("no such section");
        }
        return layout.partAt(i).address;
    }

    public int boot(boolean fromTape) {
        Row source = fromTape ? tape : out;
        bootError = memory.errorOf(source);
        if (bootError == 0) {
            memory.load(source);
        }
        if (fromTape) {
            tape.clear();
        }
        return bootError;
    }

    public int peek(long address) {
        return memory.byteAt(address);
    }

    public long flags(long address) {
        return memory.flagsAt(address);
    }

    public long out(int k) throws NoSuchElementException {
        if (k < 0 || k >= out.size) {
            throw new NoSuchElementException("OUT has no such byte");
        }
        return out.num(k, 8);
    }

    public long look(int what) throws IllegalArgumentException {
        if (what < 0 || what > 18) {
            throw new IllegalArgumentException("no such what");
        }
        switch (what) {
            case 0: return files;
            case 1: return tape.size;
            case 2: return out.size;
            case 9: return memory.rows;
            case 10: return memory.entry;
            case 11: return bootError;
            case 16: return given.count;
            case 17: return wished.count;
            case 18: return memory.named;
            default: return lookAtLink(what);
        }
    }

    private long lookAtLink(int what) {
        boolean done = link.answer == 0;
        boolean laid = done || link.answer > 2;
        switch (what) {
            case 3: return link.answer;
            case 4: return link.overrun;
            case 5: return link.taken;
            case 6: return link.countStaying();
            case 7: return done ? layout.countSegments() : 0;
            case 8: return link.names.count;
            case 12: return laid ? layout.slotCount : 0;
            case 13: return link.dropped;
            case 14: return laid ? pool.size : 0;
            default: return done ? layout.tp : 0;
        }
    }

    private int runLink(boolean reached) {
        int answer = link.resolve(reached);
        if (answer == 0) {
            layout.lay();
            answer = layout.isTooLarge() ? 3 : 0;
        }
        if (answer == 0) {
            filler.write();
            answer = filler.fillSites() ? 0 : 4;
        }
        link.answer = answer;
        if (answer == 0) {
            out.clear();
            out.copy(filler.file.bytes, 0, filler.file.size);
        } else if (answer < 3) {
            out.clear();
            link.blamed.writeTo(out);
        }
        return answer;
    }

    /** The draft and OUT change places, so that nothing is copied. */
    private int publishDraft() {
        Row old = out;
        out = draft;
        draft = old;
        return out.size;
    }

    private boolean readTapeName() {
        boolean good = tape.size >= 1 && tape.size <= NAME_BYTES;
        probe.wipe();
        for (int k = 0; good && k < tape.size; k++) {
            int letter = tape.at(k);
            probe.append(letter);
            good = letter != 0;
        }
        tape.clear();
        return good;
    }

    private ObjectFile memberAt(int i, int k) {
        if (i < 0 || i >= files || k < 0 || k >= MEMBERS) {
            return null;
        }
        ObjectFile m = members[i * MEMBERS + k];
        return m.kind == ABSENT ? null : m;
    }

    private ObjectFile objectAt(int i, int k) {
        ObjectFile m = memberAt(i, k);
        return m == null || m.kind == INDEX ? null : m;
    }

    private void clearFile(int file) {
        for (int k = 0; k < MEMBERS; k++) {
            members[file * MEMBERS + k].open(ABSENT, 0, 0);
        }
        store.size = ends[file];
    }

    private int readFile(int first) {
        int base = store.size;
        store.copy(tape.bytes, 0, tape.size);
        if (tape.size >= ARCHIVE.length && tape.begins(ARCHIVE)) {
            return readArchive(first, base);
        }
        members[first].open(ALONE, base, tape.size);
        return members[first].readError(marks);
    }

    private int readArchive(int first, int base) {
        int at = ARCHIVE.length;
        for (int k = 0; k < MEMBERS && at < tape.size; k++) {
            int n = memberSize(at);
            if (n < 0) {
                return 8;
            }
            int kind = tape.at(at) == 0x2f ? INDEX : MEMBER;
            members[first + k].open(kind, base + at + 60, n);
            at += 60 + n + (n & 1);
        }
        if (at != tape.size) {
            return 8;
        }
        int error = 0;
        for (int k = 0; k < MEMBERS && error == 0; k++) {
            ObjectFile m = members[first + k];
            error = m.kind == MEMBER ? m.readError(marks) : 0;
        }
        return error;
    }

    /** The size that a member's 60 bytes ahead tell, which begin there; -1 when not as told. */
    private int memberSize(int at) {
        if (tape.size - at < 60 || tape.num(at + 58, 2) != 0x0a60) {
            return -1;
        }
        long n = 0;
        int digits = 0;
        for (int k = 0; k < 10; k++) {
            int c = tape.at(at + 48 + k);
            if (c >= '0' && c <= '9' && digits == k) {
                n = 10 * n + c - '0';
                digits++;
            } else if (c != ' ') {
                return -1;
            }
        }
        long left = tape.size - at - 60;
        if (digits == 0 || n > left) {
            return -1;
        }
        if ((n & 1) == 1 && (n == left || tape.at(at + 60 + (int) n) != 0x0a)) {
            return -1;
        }
        return (int) n;
    }

    /** Numbers of 64 bits are unsigned. */
    private static boolean above(long a, long b) {
        return (a ^ HIGHEST_BIT) > (b ^ HIGHEST_BIT);
    }

    private static long up(long value, long power) {
        return value + power - 1 & -power;
    }

    private static boolean isPower(long v) {
        return v >= 1 && v <= 4096 && (v & v - 1) == 0;
    }

    /** How many bytes a site has; -1 for a how that is not told. */
    private static int siteWidth(long how) {
        if (how == 1 || how == 18) {
            return 8;
        }
        if (how == 2 || how == 4 || how >= 9 && how <= 11) {
            return 4;
        }
        if (how == 22 || how == 23 || how == 41 || how == 42) {
            return 4;
        }
        return how == 0 ? 0 : -1;
    }

    /** A row of bytes that is made once; what goes beyond its limit is not written, only noted. */
    private static final class Row {
        final byte[] bytes;
        int size;
        boolean over;

        Row(int limit) {
            bytes = new byte[Math.max(limit, 0)];
        }

        void clear() {
            size = 0;
            over = false;
        }

        int at(int i) {
            return i >= 0 && i < size ? bytes[i] & 255 : 0;
        }

        long num(int from, int n) {
            long v = 0;
            for (int k = n - 1; k >= 0; k--) {
                v = v << 8 | at(from + k);
            }
            return v;
        }

        boolean holds(long from, long n) {
            return !above(from, size) && !above(n, size - from);
        }

        /** How many bytes a name has that ends with a 0 ahead of the end; 0 if not 1 to 20. */
        int nameLength(int from, int end) {
            for (int k = 0; k <= NAME_BYTES && from + k < end; k++) {
                if (at(from + k) == 0) {
                    return k;
                }
            }
            return 0;
        }

        boolean begins(byte[] with) {
            for (int k = 0; k < with.length; k++) {
                if (at(k) != with[k]) {
                    return false;
                }
            }
            return true;
        }

        void put(int n, long v) {
            for (int k = 0; k < n; k++) {
                if (size < bytes.length) {
                    bytes[size] = (byte) (v >>> 8 * k);
                    size++;
                } else {
                    over = true;
                }
            }
        }

        void putHighestFirst(int v) {
            for (int shift = 24; shift >= 0; shift -= 8) {
                put(1, v >>> shift);
            }
        }

        void putAll(byte[] with) {
            for (int k = 0; k < with.length; k++) {
                put(1, with[k]);
            }
        }

        void putDecimal(int v) {
            for (int unit = 1000000000; unit > 0; unit /= 10) {
                if (v >= unit || unit == 1) {
                    put(1, '0' + v / unit % 10);
                }
            }
        }

        void putHex(long v) {
            for (int shift = 60; shift >= 0; shift -= 4) {
                int digit = (int) (v >>> shift) & 15;
                put(1, digit < 10 ? '0' + digit : 'a' + digit - 10);
            }
        }

        void set(int from, int n, long v) {
            for (int k = 0; k < n; k++) {
                int i = from + k;
                if (i >= 0 && i < size) {
                    bytes[i] = (byte) (v >>> 8 * k);
                }
            }
        }

        void fillTo(long end, int with) {
            if (end > bytes.length) {
                over = true;
            }
            int stop = (int) Math.min(end, bytes.length);
            if (stop > size) {
                Arrays.fill(bytes, size, stop, (byte) with);
                size = stop;
            }
        }

        void copy(byte[] source, int from, int n) {
            if (from < 0 || n < 0 || n > source.length - from) {
                return;
            }
            if (n > bytes.length - size) {
                over = true;
                return;
            }
            System.arraycopy(source, from, bytes, size, n);
            size += n;
        }

        /** Writes over what is there; a range that does not lie in the row is left alone. */
        void cover(int at, byte[] source, int from, int n) {
            if (at < 0 || from < 0 || n < 0 || n > size - at || n > source.length - from) {
                return;
            }
            System.arraycopy(source, from, bytes, at, n);
        }
    }

    /** A name of 1 to 20 bytes in three words, and what a link knows of it. */
    private static final class Name {
        long low;
        long mid;
        long high;
        int length;
        int strength;
        int home;
        Part part;
        long value;
        long size;
        int info;
        boolean missed;
        boolean wished;
        boolean signature;
        boolean stays;
        long address;
        int slot;
        int threadSlot;
        int number;

        void wipe() {
            low = 0;
            mid = 0;
            high = 0;
            length = 0;
        }

        void append(int letter) {
            long moved = (long) (letter & 255) << 8 * (length & 7);
            if (length < 8) {
                low |= moved;
            } else if (length < 16) {
                mid |= moved;
            } else {
                high |= moved;
            }
            length++;
        }

        void read(Row row, int from) {
            wipe();
            for (int k = 0; k < NAME_BYTES && row.at(from + k) != 0; k++) {
                append(row.at(from + k));
            }
        }

        void setText(String text) {
            wipe();
            for (int k = 0; k < text.length(); k++) {
                append(text.charAt(k));
            }
        }

        /** Takes over the text alone: what an earlier link knew must not shine through. */
        void renew(Name text) {
            low = text.low;
            mid = text.mid;
            high = text.high;
            length = text.length;
            strength = 0;
            home = NOWHERE;
            part = null;
            value = 0;
            size = 0;
            info = 0;
            missed = false;
            wished = false;
            signature = false;
            stays = false;
            address = 0;
            slot = 0;
            threadSlot = 0;
            number = 0;
        }

        boolean isDefinedByInput() {
            return home == IN_SECTION || home == AT_VALUE || home == IN_COMMON;
        }

        boolean isMissedOrWished() {
            return missed || wished;
        }

        void writeTo(Row row) {
            for (int k = 0; k < length && k < 24; k++) {
                long word = k < 8 ? low : k < 16 ? mid : high;
                row.put(1, word >>> 8 * (k & 7));
            }
        }
    }

    /** Different names in the order in which they came; its Name objects are used again. */
    private static final class Names {
        final Name[] names;
        final Name none;
        int count;

        Names(int limit) {
            names = new Name[Math.max(limit, 0)];
            none = new Name();
        }

        Name at(int i) {
            Name n = i >= 0 && i < count && i < names.length ? names[i] : null;
            return n == null ? none : n;
        }

        Name find(Name text) {
            for (int i = 0; i < count && i < names.length; i++) {
                Name n = names[i];
                if (n != null && n.low == text.low && n.mid == text.mid && n.high == text.high
                        && n.length == text.length) {
                    return n;
                }
            }
            return null;
        }

        /** The name as it stands here already, or else as a new one at the end. */
        Name enter(Name text) {
            Name n = find(text);
            if (n != null) {
                return n;
            }
            if (count >= names.length) {
                return none;
            }
            n = names[count];
            if (n == null) {
                n = new Name();
                names[count] = n;
            }
            n.renew(text);
            count++;
            return n;
        }
    }

    /** A section of an object taken; what calls after the link ask for is copied here. */
    private static final class Part {
        int object;
        int file;
        int member;
        int number;
        int group;
        int size;
        int align;
        int start;
        int state;
        boolean stays;
        boolean strings;
        long address;
        int fresh;
    }

    /** A place for an object of a file: where its bytes stand in the store, and their reading. */
    private static final class ObjectFile {
        final Row store;
        final int file;
        final int member;
        final byte[] groups;
        int kind;
        int base;
        int size;
        int rows;
        int sections;
        int symbolsAt;
        int symbolPlace;
        int symbols;
        int namePlace;
        int nameSize;
        int stringsBits;
        boolean taken;
        int cause;

        ObjectFile(Row store, int file, int member) {
            this.store = store;
            this.file = file;
            this.member = member;
            groups = new byte[SECTIONS];
        }

        void open(int newKind, int newBase, int newSize) {
            kind = newKind;
            base = newBase;
            size = newSize;
            sections = 0;
            symbolsAt = -1;
            symbols = 0;
            taken = false;
            cause = 0;
        }

        long num(int from, int n) {
            int at = base + from;
            if (from < 0 || from > size - n || at < 0 || at > store.bytes.length - n) {
                return 0;
            }
            long v = 0;
            for (int k = n - 1; k >= 0; k--) {
                v = v << 8 | store.bytes[at + k] & 255;
            }
            return v;
        }

        boolean holds(long from, long n) {
            return !above(from, size) && !above(n, size - from);
        }

        long typeOf(int i) {
            return num(rows + 64 * i + 4, 4);
        }

        long flagsOf(int i) {
            return num(rows + 64 * i + 8, 8);
        }

        long placeOf(int i) {
            return num(rows + 64 * i + 24, 8);
        }

        long lengthOf(int i) {
            return num(rows + 64 * i + 32, 8);
        }

        long linkOf(int i) {
            return num(rows + 64 * i + 40, 4);
        }

        long infoOf(int i) {
            return num(rows + 64 * i + 44, 4);
        }

        long alignOf(int i) {
            return num(rows + 64 * i + 48, 8);
        }

        /** The group of a kept section; -1 for others. */
        int groupOf(long i) {
            return i >= 0 && i < sections && i < groups.length ? groups[(int) i] : -1;
        }

        /** The number of the kept section that the sites of section i are for; -1 without one. */
        int targetOf(int i) {
            if (typeOf(i) != 4) {
                return -1;
            }
            long target = infoOf(i);
            return groupOf(target) < 0 ? -1 : (int) target;
        }

        int sitesOf(int i) {
            return (int) (lengthOf(i) / 24);
        }

        int bindOf(int j) {
            return j <= 0 || j >= symbols ? 0 : (int) num(symbolPlace + 24 * j + 4, 1) >> 4;
        }

        int kindOf(int j) {
            return (int) num(symbolPlace + 24 * j + 4, 1) & 15;
        }

        int whereOf(int j) {
            return (int) num(symbolPlace + 24 * j + 6, 2);
        }

        long valueOf(int j) {
            return num(symbolPlace + 24 * j + 8, 8);
        }

        boolean isDefining(int j) {
            return bindOf(j) != 0 && whereOf(j) != 0;
        }

        /** Where the name of a symbol begins in the store. */
        int nameStart(int j) {
            return base + namePlace + (int) num(symbolPlace + 24 * j, 4);
        }

        int readError(int[] marks) {
            if (!isHeadGood()) {
                return 1;
            }
            if (!areRowsGood()) {
                return 2;
            }
            int error = sectionsError();
            if (error != 0) {
                return error;
            }
            if (!findSymbols()) {
                return 5;
            }
            for (int j = 1; j < symbols; j++) {
                if (!isSymbolGood(j)) {
                    return 6;
                }
            }
            if (!areSitesGood(marks)) {
                return 7;
            }
            if (!areGroupsGood()) {
                return 9;
            }
            findStrings();
            return 0;
        }

        private boolean isHeadGood() {
            for (int k = 0; k < ELF.length; k++) {
                if (num(k, 1) != ELF[k]) {
                    return false;
                }
            }
            return size >= 64 && num(16, 2) == 1 && num(18, 2) == 62 && num(20, 4) == 1
                    && num(52, 2) == 64 && num(58, 2) == 64;
        }

        private boolean areRowsGood() {
            int n = (int) num(60, 2);
            long at = num(40, 8);
            if (n < 1 || n > SECTIONS || !holds(at, 64L * n)) {
                return false;
            }
            rows = (int) at;
            sections = n;
            return typeOf(0) == 0;
        }

        private int sectionsError() {
            for (int i = 0; i < sections && i < groups.length; i++) {
                long type = typeOf(i);
                if (type != 0 && type != 8 && !holds(placeOf(i), lengthOf(i))) {
                    return 3;
                }
                groups[i] = (byte) findGroup(type, flagsOf(i));
                long align = alignOf(i);
                boolean odd = align != 0 && !isPower(align) || above(lengthOf(i), LARGEST);
                if (groups[i] >= 0 && odd) {
                    return 4;
                }
            }
            return 0;
        }

        private static int findGroup(long type, long flags) {
            if (type != 1 && type != 8 || (flags & 2) == 0) {
                return -1;
            }
            if ((flags & 0x400) != 0) {
                return type == 1 ? 4 : 5;
            }
            if (type == 8) {
                return 3;
            }
            if ((flags & 4) != 0) {
                return 0;
            }
            return (flags & 1) != 0 ? 2 : 1;
        }

        private boolean findSymbols() {
            for (int i = 0; i < sections; i++) {
                if (typeOf(i) == 2) {
                    if (symbolsAt >= 0) {
                        return false;
                    }
                    symbolsAt = i;
                }
            }
            if (symbolsAt < 0) {
                return true;
            }
            long length = lengthOf(symbolsAt);
            long names = linkOf(symbolsAt);
            if (length % 24 != 0 || length > 24 * SYMBOLS || names >= sections
                    || typeOf((int) names) != 3) {
                return false;
            }
            symbolPlace = (int) placeOf(symbolsAt);
            symbols = (int) length / 24;
            namePlace = (int) placeOf((int) names);
            nameSize = (int) lengthOf((int) names);
            return true;
        }

        private boolean isSymbolGood(int j) {
            int bind = bindOf(j);
            int where = whereOf(j);
            boolean special = where == 0 || where == FIXED || where == COMMON;
            if (bind > 2 || !special && where >= sections) {
                return false;
            }
            if (bind == 0) {
                return where != COMMON;
            }
            if (!special && groupOf(where) < 0 || !isNameGood(j)) {
                return false;
            }
            return where != COMMON
                    || isPower(valueOf(j)) && !above(num(symbolPlace + 24 * j + 16, 8), LARGEST);
        }

        private boolean isNameGood(int j) {
            long at = num(symbolPlace + 24 * j, 4);
            int names = base + namePlace;
            return at < nameSize && store.nameLength(names + (int) at, names + nameSize) > 0;
        }

        private boolean areSitesGood(int[] marks) {
            Arrays.fill(marks, 0, Math.min(Math.max(size, 0), marks.length), 0);
            for (int i = 0; i < sections; i++) {
                int target = targetOf(i);
                if (target < 0) {
                    continue;
                }
                if (lengthOf(i) % 24 != 0 || linkOf(i) != symbolsAt) {
                    return false;
                }
                int sites = sitesOf(i);
                int at = (int) placeOf(i);
                for (int n = 0; n < sites; n++) {
                    if (!isSiteGood(at + 24 * n, target, marks)) {
                        return false;
                    }
                }
            }
            return true;
        }

        /** Each target has a bit of its own in the marks of the bytes that sites have. */
        private boolean isSiteGood(int at, int target, int[] marks) {
            int width = siteWidth(num(at + 8, 4));
            if (width < 0 || num(at + 12, 4) >= symbols) {
                return false;
            }
            if (width == 0) {
                return true;
            }
            long place = num(at, 8);
            long length = lengthOf(target);
            if (typeOf(target) == 8 || above(place, length) || above(width, length - place)) {
                return false;
            }
            for (int k = 0; k < width; k++) {
                int i = (int) place + k;
                if (i < 0 || i >= marks.length || (marks[i] >> target & 1) != 0) {
                    return false;
                }
                marks[i] |= 1 << target;
            }
            return true;
        }

        private boolean areGroupsGood() {
            int seen = 0;
            for (int i = 0; i < sections; i++) {
                if (typeOf(i) != 17) {
                    continue;
                }
                long length = lengthOf(i);
                long info = infoOf(i);
                int at = (int) placeOf(i);
                if (length == 0 || length % 4 != 0 || linkOf(i) != symbolsAt || info >= symbols
                        || bindOf((int) info) == 0 || num(at, 4) > 1) {
                    return false;
                }
                for (int k = 4; k < length; k += 4) {
                    long number = num(at + k, 4);
                    if (number < 1 || number >= sections || (seen >> number & 1) != 0) {
                        return false;
                    }
                    seen |= 1 << number;
                }
            }
            return true;
        }

        private void findStrings() {
            stringsBits = 0;
            for (int i = 0; i < sections; i++) {
                if (groupOf(i) == 1 && isStringRow(i)) {
                    stringsBits |= 1 << i;
                }
            }
            for (int i = 0; i < sections; i++) {
                int target = targetOf(i);
                if (target >= 0) {
                    stringsBits &= ~(1 << target);
                }
            }
        }

        private boolean isStringRow(int i) {
            long length = lengthOf(i);
            return (flagsOf(i) & 0x30) == 0x30 && alignOf(i) <= 1 && length > 0
                    && num((int) (placeOf(i) + length) - 1, 1) == 0;
        }

        boolean isStrings(int i) {
            return (stringsBits >> i & 1) != 0;
        }
    }

    /** The taking of objects: whose names are defined where, and which sections stay. */
    private static final class Link {
        final ObjectFile[] members;
        final Names given;
        final Names wished;
        final Names names;
        final Part[] parts;
        final Part noPart;
        final ObjectFile[] objects;
        final ObjectFile noObject;
        final Name[] symbolNames;
        final Name[] order;
        final Part[] queue;
        final Name probe;
        final Name start;
        Name blamed;
        int taken;
        int ordered;
        int queued;
        int dropped;
        int answer;
        long overrun;

        Link(ObjectFile[] members, Names given, Names wished, Row store) {
            this.members = members;
            this.given = given;
            this.wished = wished;
            names = new Names(NAMES);
            parts = new Part[OBJECTS * SECTIONS];
            for (int i = 0; i < parts.length; i++) {
                parts[i] = new Part();
            }
            noPart = new Part();
            objects = new ObjectFile[OBJECTS];
            noObject = new ObjectFile(store, 0, 0);
            symbolNames = new Name[OBJECTS * SYMBOLS];
            order = new Name[NAMES];
            queue = new Part[OBJECTS * SECTIONS];
            probe = new Name();
            start = new Name();
            start.setText("_start");
            blamed = start;
            answer = -1;
        }

        ObjectFile object(int t) {
            ObjectFile m = t >= 0 && t < taken && t < objects.length ? objects[t] : null;
            return m == null ? noObject : m;
        }

        Part part(int t, int s) {
            int i = t * SECTIONS + s;
            return i >= 0 && i < parts.length ? parts[i] : noPart;
        }

        /** The name of a symbol of the t-th object taken; null for a local one. */
        Name nameOf(int t, int j) {
            int i = t * SYMBOLS + j;
            boolean there = j >= 0 && j < SYMBOLS && i >= 0 && i < symbolNames.length;
            return there ? symbolNames[i] : null;
        }

        /** The i-th of the names that are given or defined by objects. */
        Name definedAt(int i) {
            Name n = i >= 0 && i < ordered && i < order.length ? order[i] : null;
            return n == null ? names.none : n;
        }

        /** The kept section of a local symbol, or of the definition of another's name; or null. */
        Part partOf(int t, int j) {
            Name n = nameOf(t, j);
            if (n != null) {
                return n.home == IN_SECTION ? n.part : null;
            }
            ObjectFile m = object(t);
            long where = j == 0 ? 0 : m.num(m.symbolPlace + 24 * j + 6, 2);
            if (where == 0 || where >= SECTIONS) {
                return null;
            }
            Part p = part(t, (int) where);
            return p.state == KEPT ? p : null;
        }

        /** The section that the sites of section i of the t-th object are for, if it stays. */
        Part stayingTarget(int t, int i) {
            int target = object(t).targetOf(i);
            if (target < 0) {
                return null;
            }
            Part p = part(t, target);
            return p.stays ? p : null;
        }

        int countStaying() {
            int all = 0;
            for (int i = 0; i < taken * SECTIONS && i < parts.length; i++) {
                all += parts[i].stays ? 1 : 0;
            }
            return all;
        }

        int resolve(boolean reached) {
            begin();
            for (int f = 0; f < FILES; f++) {
                ObjectFile first = members[f * MEMBERS];
                boolean single = first.kind == ALONE ? takeObject(first) : takeMembers(f);
                if (!single) {
                    return 1;
                }
            }
            defineOwn("_etext", 0);
            defineOwn("_edata", 1);
            defineOwn("__bss_start", 2);
            defineOwn("_end", 3);
            if (isNameLeft()) {
                return 2;
            }
            if (reached) {
                keepReached();
            }
            return 0;
        }

        private void begin() {
            for (int i = 0; i < members.length; i++) {
                members[i].taken = false;
                members[i].cause = 0;
            }
            taken = 0;
            ordered = 0;
            dropped = 0;
            overrun = 0;
            blamed = start;
            names.count = 0;
            for (int i = 0; i < given.count; i++) {
                Name g = given.at(i);
                define(names.enter(g), 3, AT_VALUE, null, g.value, 0, GLOBAL);
            }
            for (int i = 0; i < wished.count; i++) {
                names.enter(wished.at(i)).wished = true;
            }
        }

        private static boolean isWanted(Name n) {
            return n.strength == 0 && n.isMissedOrWished();
        }

        /** Again and again from the first member; each round but the last one takes a member. */
        private boolean takeMembers(int f) {
            boolean more = true;
            for (int round = 0; more && round <= MEMBERS; round++) {
                more = false;
                for (int k = 0; k < MEMBERS; k++) {
                    ObjectFile m = members[f * MEMBERS + k];
                    int wantedOne = m.kind == MEMBER && !m.taken ? firstWanted(m) : 0;
                    if (wantedOne > 0) {
                        m.cause = wantedOne;
                        more = true;
                        if (!takeObject(m)) {
                            return false;
                        }
                    }
                }
            }
            return true;
        }

        private int firstWanted(ObjectFile m) {
            for (int j = 1; j < m.symbols; j++) {
                if (m.isDefining(j)) {
                    probe.read(m.store, m.nameStart(j));
                    Name n = names.find(probe);
                    if (n != null && isWanted(n)) {
                        return j;
                    }
                }
            }
            return 0;
        }

        /** False when it brings a double. */
        private boolean takeObject(ObjectFile m) {
            if (taken >= objects.length) {
                return true;
            }
            int t = taken;
            objects[t] = m;
            taken++;
            m.taken = true;
            openParts(t, m);
            enterNames(t, m);
            dropGroups(t, m);
            return defineNames(t, m);
        }

        private void openParts(int t, ObjectFile m) {
            for (int s = 0; s < SECTIONS; s++) {
                Part p = part(t, s);
                int group = m.groupOf(s);
                p.object = t;
                p.file = m.file;
                p.member = m.member;
                p.number = s;
                p.group = group;
                p.state = group < 0 ? UNKEPT : KEPT;
                p.stays = group >= 0;
                p.size = group < 0 ? 0 : (int) m.lengthOf(s);
                p.align = group < 0 ? 1 : (int) Math.max(1, m.alignOf(s));
                p.start = group < 0 ? 0 : m.base + (int) m.placeOf(s);
                p.strings = group >= 0 && m.isStrings(s);
                p.address = 0;
                p.fresh = 0;
            }
        }

        /** All names of the object come first, so that they count even behind a double. */
        private void enterNames(int t, ObjectFile m) {
            for (int j = 0; j < SYMBOLS; j++) {
                Name n = null;
                if (m.bindOf(j) != 0) {
                    probe.read(m.store, m.nameStart(j));
                    n = names.enter(probe);
                }
                symbolNames[t * SYMBOLS + j] = n;
            }
        }

        private void dropGroups(int t, ObjectFile m) {
            for (int i = 0; i < m.sections; i++) {
                int at = (int) m.placeOf(i);
                if (m.typeOf(i) != 17 || m.num(at, 4) != 1) {
                    continue;
                }
                Name n = nameOf(t, (int) m.infoOf(i));
                if (n == null) {
                    continue;
                }
                if (n.signature) {
                    dropped++;
                    dropParts(t, m, at, (int) m.lengthOf(i));
                }
                n.signature = true;
            }
        }

        private void dropParts(int t, ObjectFile m, int at, int length) {
            for (int k = 4; k < length; k += 4) {
                Part p = part(t, (int) m.num(at + k, 4));
                p.state = DROPPED;
                p.stays = false;
                p.strings = false;
            }
        }

        private boolean defineNames(int t, ObjectFile m) {
            for (int j = 1; j < m.symbols; j++) {
                Name n = nameOf(t, j);
                if (n == null) {
                    continue;
                }
                int where = m.whereOf(j);
                boolean gone = where < SECTIONS && part(t, where).state == DROPPED;
                if (where == 0 || gone) {
                    n.missed = n.missed || m.bindOf(j) == 1;
                } else if (!settle(n, t, m, m.symbolPlace + 24 * j)) {
                    blamed = n;
                    return false;
                }
            }
            return true;
        }

        /** The definition in a symbol's row against the one that the name has; false: a double. */
        private boolean settle(Name n, int t, ObjectFile m, int at) {
            int info = (int) m.num(at + 4, 1);
            int where = (int) m.num(at + 6, 2);
            long value = m.num(at + 8, 8);
            long size = m.num(at + 16, 8);
            int strength = where == COMMON ? 2 : info >> 4 == 1 ? 3 : 1;
            if (strength <= n.strength) {
                if (strength == 2 && n.strength == 2) {
                    n.size = Math.max(n.size, size);
                    n.value = Math.max(n.value, value);
                }
                return strength < 3;
            }
            if (where == COMMON) {
                define(n, strength, IN_COMMON, null, value, size, GLOBAL);
            } else if (where == FIXED) {
                define(n, strength, AT_VALUE, null, value, size, info);
            } else {
                define(n, strength, IN_SECTION, part(t, where), value, size, info);
            }
            return true;
        }

        private void define(Name n, int strength, int home, Part part, long value, long size,
                int info) {
            if (n.strength == 0 && ordered < order.length) {
                order[ordered] = n;
                ordered++;
            }
            n.strength = strength;
            n.home = home;
            n.part = part;
            n.value = value;
            n.size = size;
            n.info = info;
            n.stays = true;
        }

        /** A name that stands here undefined is one that an object has, or a wished one. */
        private void defineOwn(String text, int which) {
            probe.setText(text);
            Name n = names.find(probe);
            if (n != null && n.strength == 0) {
                n.strength = 3;
                n.home = BY_LINKER;
                n.value = which;
            }
        }

        private boolean isNameLeft() {
            for (int i = 0; i < wished.count; i++) {
                Name n = names.find(wished.at(i));
                if (n != null && isWanted(n)) {
                    blamed = n;
                    return true;
                }
            }
            for (int t = 0; t < taken; t++) {
                for (int j = 0; j < SYMBOLS; j++) {
                    Name n = nameOf(t, j);
                    if (n != null && isWanted(n)) {
                        blamed = n;
                        return true;
                    }
                }
            }
            Name n = names.find(start);
            return n == null || n.strength == 0;
        }

        private void keepReached() {
            for (int i = 0; i < taken * SECTIONS; i++) {
                part(i / SECTIONS, i % SECTIONS).stays = false;
            }
            for (int i = 0; i < ordered; i++) {
                definedAt(i).stays = false;
            }
            queued = 0;
            Name first = names.find(start);
            if (first != null) {
                reachName(first);
            }
            for (int i = 0; i < queued && i < queue.length; i++) {
                if (queue[i] != null) {
                    reachFrom(queue[i]);
                }
            }
        }

        private void reachName(Name n) {
            n.stays = true;
            if (n.home == IN_SECTION) {
                reachPart(n.part);
            }
        }

        private void reachPart(Part p) {
            if (p != null && !p.stays && queued < queue.length) {
                p.stays = true;
                queue[queued] = p;
                queued++;
            }
        }

        private void reachFrom(Part p) {
            ObjectFile m = object(p.object);
            for (int i = 0; i < m.sections; i++) {
                if (m.targetOf(i) != p.number) {
                    continue;
                }
                int at = (int) m.placeOf(i);
                int sites = m.sitesOf(i);
                for (int n = 0; n < sites; n++, at += 24) {
                    if (m.num(at + 8, 4) != 0) {
                        reachSymbol(p.object, (int) m.num(at + 12, 4));
                    }
                }
            }
        }

        private void reachSymbol(int t, int j) {
            Name n = nameOf(t, j);
            if (n != null) {
                reachName(n);
            } else {
                reachPart(partOf(t, j));
            }
        }

        /** Asked of the object's own bytes: a site filled before may have changed the file's. */
        boolean isShort(int t, int at, Part target) {
            ObjectFile m = object(t);
            int how = (int) m.num(at + 8, 4);
            long place = m.num(at, 8);
            if (how != 41 && how != 42 || m.num(at + 16, 8) != -4 || place < 2) {
                return false;
            }
            int j = (int) m.num(at + 12, 4);
            Name n = nameOf(t, j);
            if (partOf(t, j) == null && (n == null || n.home != IN_COMMON)) {
                return false;
            }
            int spot = target.start - m.base + (int) place;
            int x = (int) m.num(spot - 2, 1);
            int y = (int) m.num(spot - 1, 1);
            return x == 0x8b && ((y ^ 5) & 0xc7) == 0
                    || how == 41 && x == 0xff && (y == 0x15 || y == 0x25);
        }
    }

    /** The strings of all strings' sections that stay, but those that are ends of others. */
    private static final class Pool {
        final Row store;
        final int[] starts;
        final int[] lengths;
        int count;
        int size;
        long address;

        Pool(Row store) {
            this.store = store;
            // a string has a byte 0 and, but for the empty one, another: more there can't be
            starts = new int[FILES * TAPE_LIMIT / 2 + 1];
            lengths = new int[FILES * TAPE_LIMIT / 2 + 1];
        }

        void clear() {
            count = 0;
            size = 0;
            address = 0;
        }

        void collect(Part p) {
            int from = p.start;
            int end = p.start + p.size;
            for (int i = p.start; i < end; i++) {
                if (store.at(i) == 0) {
                    admit(from, i + 1 - from);
                    from = i + 1;
                }
            }
        }

        private void admit(int from, int n) {
            for (int i = 0; i < count; i++) {
                if (isEnd(from, n, starts[i], lengths[i])) {
                    return;
                }
            }
            int left = 0;
            for (int i = 0; i < count; i++) {
                if (!isEnd(starts[i], lengths[i], from, n)) {
                    starts[left] = starts[i];
                    lengths[left] = lengths[i];
                    left++;
                } else {
                    size -= lengths[i];
                }
            }
            count = left;
            if (count < starts.length) {
                starts[count] = from;
                lengths[count] = n;
                count++;
                size += n;
            }
        }

        /** Whether the string of n bytes is an end of the one of room bytes, or is that one. */
        private boolean isEnd(int from, int n, int other, int room) {
            byte[] bytes = store.bytes;
            if (n > room || from < 0 || other < 0 || n > bytes.length - from
                    || room > bytes.length - other) {
                return false;
            }
            int shift = other + room - n - from;
            for (int i = from + n - 1; i >= from; i--) {
                if (bytes[i] != bytes[i + shift]) {
                    return false;
                }
            }
            return true;
        }

        /** The address of byte k of a section; of a strings' one in the pool, or the pool's end. */
        long addressIn(Part p, long k) {
            if (!p.stays) {
                return 0;
            }
            if (!p.strings) {
                return p.address + k;
            }
            if (k < 0 || k >= p.size) {
                return address + size;
            }
            int at = p.start + (int) k;
            int from = at;
            while (from > p.start && store.at(from - 1) != 0) {
                from--;
            }
            int end = at;
            while (end < p.start + p.size - 1 && store.at(end) != 0) {
                end++;
            }
            int n = end + 1 - from;
            long place = address;
            for (int i = 0; i < count; i++) {
                place += lengths[i];
                if (isEnd(from, n, starts[i], lengths[i])) {
                    return place - (end + 1 - at);
                }
            }
            return address + size;
        }
    }

    /** Where all that stays lies: in the segments, in the file, and in the threads' template. */
    private static final class Layout {
        final Link link;
        final Pool pool;
        final Part[] order;
        final Part noPart;
        final boolean[] there;
        final long[] filePlace;
        final long[] base;
        final long[] fileBytes;
        final long[] memoryBytes;
        final int[] slots;
        final int[] localSlots;
        int count;
        int slotCount;
        long slotPlace;
        long textEnd;
        long bssStart;
        long threadAlign;
        long tp;
        long fileSize;

        Layout(Link link, Pool pool) {
            this.link = link;
            this.pool = pool;
            order = new Part[OBJECTS * SECTIONS];
            noPart = new Part();
            there = new boolean[SEGMENTS + 1];
            filePlace = new long[SEGMENTS + 1];
            base = new long[SEGMENTS + 1];
            fileBytes = new long[SEGMENTS + 1];
            memoryBytes = new long[SEGMENTS + 1];
            slots = new int[2 * OBJECTS * SYMBOLS];
            localSlots = new int[2 * OBJECTS * SYMBOLS];
        }

        Part partAt(int i) {
            Part p = i >= 0 && i < count && i < order.length ? order[i] : null;
            return p == null ? noPart : p;
        }

        int segmentOf(Part p) {
            return p.group >= 0 && p.group < SEGMENT_OF.length ? SEGMENT_OF[p.group] : 0;
        }

        int countSegments() {
            int all = 0;
            for (int s = 0; s < SEGMENTS; s++) {
                all += there[s] ? 1 : 0;
            }
            return all;
        }

        boolean isTooLarge() {
            for (int s = 0; s < SEGMENTS; s++) {
                if (memoryBytes[s] > ROOM_LIMIT) {
                    return true;
                }
            }
            return fileSize > OUT_LIMIT;
        }

        void lay() {
            gather();
            findSlots();
            findSegments();
            layText();
            for (int i = 0; i < count; i++) {
                Part p = partAt(i);
                if (p.strings) {
                    p.address = pool.addressIn(p, 0);
                }
            }
            for (int i = 0; i < link.names.count; i++) {
                Name n = link.names.at(i);
                n.address = addressOf(n);
            }
        }

        private void gather() {
            count = 0;
            pool.clear();
            for (int g = 0; g < LAYOUT_ORDER.length; g++) {
                for (int i = 0; i < link.taken * SECTIONS; i++) {
                    Part p = link.part(i / SECTIONS, i % SECTIONS);
                    if (p.stays && p.group == LAYOUT_ORDER[g] && count < order.length) {
                        order[count] = p;
                        count++;
                        if (p.strings) {
                            pool.collect(p);
                        }
                    }
                }
            }
        }

        private void findSlots() {
            slotCount = 0;
            slotPlace = 0;
            Arrays.fill(localSlots, 0, Math.min(2 * link.taken * SYMBOLS, localSlots.length), 0);
            for (int t = 0; t < link.taken; t++) {
                ObjectFile m = link.object(t);
                for (int i = 0; i < m.sections; i++) {
                    Part target = link.stayingTarget(t, i);
                    int sites = target == null ? 0 : m.sitesOf(i);
                    int at = (int) m.placeOf(i);
                    for (int n = 0; n < sites; n++) {
                        findSlot(t, at + 24 * n, target);
                    }
                }
            }
        }

        private void findSlot(int t, int at, Part target) {
            ObjectFile m = link.object(t);
            int how = (int) m.num(at + 8, 4);
            boolean threads = how == 22;
            boolean plain = how == 9 || (how == 41 || how == 42) && !link.isShort(t, at, target);
            int j = (int) m.num(at + 12, 4);
            if ((threads || plain) && slotOf(t, j, threads) == 0 && slotCount < slots.length) {
                int key = slotKey(t, j, threads);
                slots[slotCount] = key;
                slotCount++;
                Name n = link.nameOf(t, j);
                if (n == null) {
                    localSlots[key] = slotCount;
                } else if (threads) {
                    n.threadSlot = slotCount;
                } else {
                    n.slot = slotCount;
                }
            }
        }

        private int slotKey(int t, int j, boolean threads) {
            int key = 2 * (t * SYMBOLS + j) + (threads ? 1 : 0);
            return key >= 0 && key < localSlots.length ? key : 0;
        }

        /** The number of the symbol's slot, from 1 on; 0 without one. */
        int slotOf(int t, int j, boolean threads) {
            Name n = link.nameOf(t, j);
            if (n != null) {
                return threads ? n.threadSlot : n.slot;
            }
            return localSlots[slotKey(t, j, threads)];
        }

        /** What the k-th slot holds. */
        long slotValue(int k) {
            int key = k >= 0 && k < slotCount ? slots[k] : 0;
            int symbol = key / 2;
            long address = symbolAddress(symbol / SYMBOLS, symbol % SYMBOLS);
            return (key & 1) == 0 ? address : address - tp;
        }

        private void findSegments() {
            Arrays.fill(filePlace, 0);
            Arrays.fill(fileBytes, 0);
            Arrays.fill(memoryBytes, 0);
            for (int s = 0; s <= TEMPLATE; s++) {
                there[s] = false;
            }
            for (int i = 0; i < count; i++) {
                Part p = partAt(i);
                if (p.size > 0) {
                    there[segmentOf(p)] = true;
                    there[TEMPLATE] = there[TEMPLATE] || p.group >= 4;
                }
            }
            for (int i = 0; i < link.ordered; i++) {
                Name n = link.definedAt(i);
                there[2] = there[2] || isLaidCommon(n) && n.size > 0;
            }
            there[2] = there[2] || slotCount > 0;
        }

        private static boolean isLaidCommon(Name n) {
            return n.home == IN_COMMON && n.stays;
        }

        private void layText() {
            long at = 64 + 56 * (countSegments() + (there[TEMPLATE] ? 1 : 0));
            long end = FIRST_ADDRESS;
            for (int s = 0; s < SEGMENTS; s++) {
                filePlace[s] = up(at, 16);
                base[s] = up(end, PAGE) + (there[s] ? filePlace[s] & PAGE - 1 : 0);
                if (s == 2) {
                    layData();
                } else {
                    long cursor = layGroup(s, base[s]);
                    if (s == 0) {
                        textEnd = cursor;
                    } else {
                        pool.address = cursor;
                        cursor += pool.size;
                    }
                    fileBytes[s] = cursor - base[s];
                    memoryBytes[s] = fileBytes[s];
                }
                if (there[s]) {
                    at = filePlace[s] + fileBytes[s];
                    end = base[s] + memoryBytes[s];
                }
            }
            fileSize = at;
        }

        private void layData() {
            long cursor = layGroup(4, base[2]);
            layTemplate(cursor, layGroup(5, cursor));
            cursor = layGroup(2, cursor);
            if (slotCount > 0) {
                slotPlace = up(cursor, 8);
                cursor = slotPlace + 8L * slotCount;
            }
            fileBytes[2] = cursor - base[2];
            cursor = layGroup(3, cursor);
            Part first = firstOf(3);
            bssStart = first == null ? -1 : first.address;
            for (int i = 0; i < link.ordered; i++) {
                Name n = link.definedAt(i);
                if (isLaidCommon(n)) {
                    n.address = there[2] ? up(cursor, n.value) : cursor;
                    cursor = n.address + n.size;
                    bssStart = bssStart < 0 ? n.address : bssStart;
                }
            }
            bssStart = bssStart < 0 ? cursor : bssStart;
            memoryBytes[2] = cursor - base[2];
        }

        private void layTemplate(long fileEnd, long memoryEnd) {
            Part first = firstOf(4);
            boolean filled = first != null;
            first = filled ? first : firstOf(5);
            threadAlign = 1;
            tp = base[2];
            if (first == null) {
                return;
            }
            for (int i = 0; i < count; i++) {
                Part p = partAt(i);
                threadAlign = p.group >= 4 ? Math.max(threadAlign, p.align) : threadAlign;
            }
            base[TEMPLATE] = first.address;
            filePlace[TEMPLATE] = filePlace[2] + first.address - base[2];
            fileBytes[TEMPLATE] = filled ? fileEnd - first.address : 0;
            memoryBytes[TEMPLATE] = memoryEnd - first.address;
            tp = up(memoryEnd, threadAlign);
        }

        private Part firstOf(int group) {
            for (int i = 0; i < count; i++) {
                if (partAt(i).group == group) {
                    return partAt(i);
                }
            }
            return null;
        }

        /** Where the group's last section ends; all lie at one address in a segment left out. */
        private long layGroup(int group, long from) {
            long cursor = from;
            for (int i = 0; i < count; i++) {
                Part p = partAt(i);
                if (p.group == group && !p.strings) {
                    p.address = there[segmentOf(p)] ? up(cursor, p.align) : cursor;
                    cursor = p.address + p.size;
                }
            }
            return cursor;
        }

        private long addressOf(Name n) {
            switch (n.home) {
                case IN_SECTION: return n.part == null ? 0 : pool.addressIn(n.part, n.value);
                case AT_VALUE: return n.value;
                case IN_COMMON: return n.stays ? n.address : 0;
                case BY_LINKER: return ownAddress((int) n.value);
                default: return 0;
            }
        }

        private long ownAddress(int which) {
            switch (which) {
                case 0: return textEnd;
                case 1: return base[2] + fileBytes[2];
                case 2: return bssStart;
                default: return base[2] + memoryBytes[2];
            }
        }

        long symbolAddress(int t, int j) {
            Name n = link.nameOf(t, j);
            if (n != null) {
                return n.address;
            }
            ObjectFile m = link.object(t);
            int where = j == 0 ? 0 : m.whereOf(j);
            if (where == 0) {
                return 0;
            }
            Part p = where < SECTIONS ? link.part(t, where) : null;
            boolean unkept = p == null || p.state == UNKEPT;
            return unkept ? m.valueOf(j) : pool.addressIn(p, m.valueOf(j));
        }
    }

    /** The bytes of the file that a link makes; they stay for the calls after it. */
    private static final class Filler {
        final Link link;
        final Layout layout;
        final Pool pool;
        final Row store;
        final Row file;

        Filler(Link link, Layout layout, Pool pool, Row store) {
            this.link = link;
            this.layout = layout;
            this.pool = pool;
            this.store = store;
            file = new Row(OUT_LIMIT);
        }

        void write() {
            writeHead();
            for (int s = 0; s < SEGMENTS; s++) {
                if (layout.there[s]) {
                    writeRow(1, SEGMENT_FLAGS[s], s, PAGE);
                }
            }
            if (layout.there[TEMPLATE]) {
                writeRow(7, 4, TEMPLATE, layout.threadAlign);
            }
            file.fillTo(layout.fileSize, 0);
            for (int i = 0; i < layout.count; i++) {
                Part p = layout.partAt(i);
                if (p.group != 3 && p.group != 5 && !p.strings) {
                    file.cover(spotOf(p), store.bytes, p.start, p.size);
                }
            }
            int at = (int) (layout.filePlace[1] + pool.address - layout.base[1]);
            for (int i = 0; i < pool.count; i++) {
                file.cover(at, store.bytes, pool.starts[i], pool.lengths[i]);
                at += pool.lengths[i];
            }
            at = (int) (layout.filePlace[2] + layout.slotPlace - layout.base[2]);
            for (int k = 0; k < layout.slotCount; k++) {
                file.set(at + 8 * k, 8, layout.slotValue(k));
            }
        }

        private void writeHead() {
            Name start = link.names.find(link.start);
            file.clear();
            file.putAll(ELF);
            file.fillTo(16, 0);
            file.put(2, 2);
            file.put(2, 62);
            file.put(4, 1);
            file.put(8, start == null ? 0 : start.address);
            file.put(8, 64);
            file.put(8, 0);
            file.put(4, 0);
            file.put(2, 64);
            file.put(2, 56);
            file.put(2, layout.countSegments() + (layout.there[TEMPLATE] ? 1 : 0));
            file.put(6, 0);
        }

        private void writeRow(int type, int flags, int s, long align) {
            file.put(4, type);
            file.put(4, flags);
            file.put(8, layout.filePlace[s]);
            file.put(8, layout.base[s]);
            file.put(8, layout.base[s]);
            file.put(8, layout.fileBytes[s]);
            file.put(8, layout.memoryBytes[s]);
            file.put(8, align);
        }

        private int spotOf(Part p) {
            int s = layout.segmentOf(p);
            return (int) (layout.filePlace[s] + p.address - layout.base[s]);
        }

        /** False when a site runs over; its address is the link's then. */
        boolean fillSites() {
            for (int t = 0; t < link.taken; t++) {
                ObjectFile m = link.object(t);
                for (int i = 0; i < m.sections; i++) {
                    Part target = link.stayingTarget(t, i);
                    int sites = target == null ? 0 : m.sitesOf(i);
                    int at = (int) m.placeOf(i);
                    for (int n = 0; n < sites; n++) {
                        if (!fillSite(t, at + 24 * n, target)) {
                            link.overrun = target.address + m.num(at + 24 * n, 8);
                            return false;
                        }
                    }
                }
            }
            return true;
        }

        private boolean fillSite(int t, int at, Part target) {
            ObjectFile m = link.object(t);
            int how = (int) m.num(at + 8, 4);
            int width = siteWidth(how);
            int place = (int) m.num(at, 8);
            if (width <= 0) {
                return true;
            }
            if (link.isShort(t, at, target)) {
                return fillShort(t, at, target);
            }
            int j = (int) m.num(at + 12, 4);
            long a = m.num(at + 16, 8);
            boolean slotted = how == 9 || how == 22 || how > 23;
            long v = slotted ? slotAddress(t, j, how == 22) + a : sumFor(how, t, j, a);
            if (how == 18 || how == 23) {
                v -= layout.tp;
            } else if (how == 2 || how == 4 || slotted) {
                v -= target.address + place;
            }
            file.set(spotOf(target) + place, width, v);
            boolean fits = how == 10 ? v >>> 32 == 0 : v == (int) v;
            return fits || width == 8;
        }

        private long slotAddress(int t, int j, boolean threads) {
            return layout.slotPlace + 8L * (layout.slotOf(t, j, threads) - 1);
        }

        /** S + A; of a section's own symbol A tells which string is meant, not a way from it. */
        private long sumFor(int how, int t, int j, long a) {
            ObjectFile m = link.object(t);
            boolean plain = how == 1 || how == 10 || how == 11;
            if (plain && j > 0 && link.nameOf(t, j) == null && m.kindOf(j) == 3) {
                Part p = link.partOf(t, j);
                if (p != null && p.strings) {
                    return pool.addressIn(p, m.valueOf(j) + a);
                }
            }
            return layout.symbolAddress(t, j) + a;
        }

        private boolean fillShort(int t, int at, Part target) {
            ObjectFile m = link.object(t);
            int place = (int) m.num(at, 8);
            int spot = spotOf(target) + place;
            int ahead = target.start - m.base + place - 2;
            long p = target.address + place;
            long v = layout.symbolAddress(t, (int) m.num(at + 12, 4)) + m.num(at + 16, 8) - p;
            if (m.num(ahead, 1) == 0x8b) {
                file.set(spot - 2, 1, 0x8d);
                file.set(spot, 4, v);
            } else if (m.num(ahead + 1, 1) == 0x15) {
                file.set(spot - 2, 2, 0xe867);
                file.set(spot, 4, v);
            } else {
                v++;
                file.set(spot - 2, 1, 0xe9);
                file.set(spot - 1, 4, v);
                file.set(spot + 3, 1, 0x90);
            }
            return v == (int) v;
        }
    }

    /** What is written for others to read: lists, maps, archives, and the objects of a merge. */
    private static final class Scribe {
        final Link link;
        final Layout layout;
        final Row store;
        final Row rows;
        final int[] locals;
        final Name[] listed;
        int listedCount;
        int localCount;
        int symbolsSection;

        Scribe(Link link, Layout layout, Row store) {
            this.link = link;
            this.layout = layout;
            this.store = store;
            rows = new Row(64 * SECTIONS);
            locals = new int[OBJECTS * SYMBOLS];
            listed = new Name[SYMBOLS];
        }

        void writeList(Row to, ObjectFile m) {
            to.clear();
            for (int j = 1; j < m.symbols; j++) {
                if (m.bindOf(j) == 0) {
                    continue;
                }
                if (m.whereOf(j) == 0) {
                    to.fillTo(to.size + 16, ' ');
                } else {
                    to.putHex(m.valueOf(j));
                }
                to.put(1, ' ');
                to.put(1, letterOf(m, j));
                to.put(1, ' ');
                link.probe.read(store, m.nameStart(j));
                link.probe.writeTo(to);
                to.put(1, 10);
            }
        }

        private static int letterOf(ObjectFile m, int j) {
            int where = m.whereOf(j);
            boolean weak = m.bindOf(j) == 2;
            if (where == 0) {
                return weak ? 'w' : 'U';
            }
            if (where == COMMON) {
                return 'C';
            }
            if (weak) {
                return 'W';
            }
            int group = m.groupOf(where);
            boolean told = group >= 0 && group < GROUP_LETTERS.length();
            return told ? GROUP_LETTERS.charAt(group) : 'A';
        }

        boolean writeMap(Row to) {
            to.clear();
            for (int i = 0; i < layout.count; i++) {
                Part p = layout.partAt(i);
                to.putHex(p.address);
                to.put(1, ' ');
                to.putDecimal(p.size);
                to.put(1, ' ');
                to.putDecimal(p.group);
                to.put(1, ' ');
                to.putDecimal(p.file);
                to.put(1, '.');
                to.putDecimal(p.member);
                to.put(1, '.');
                to.putDecimal(p.number);
                to.put(1, 10);
            }
            for (int i = 0; i < link.ordered; i++) {
                Name n = link.definedAt(i);
                to.putHex(n.address);
                to.put(1, ' ');
                n.writeTo(to);
                to.put(1, 10);
            }
            return !to.over;
        }

        boolean writePacked(Row to, ObjectFile[] members) {
            int objects = 0;
            int names = 0;
            int letters = 0;
            for (int i = 0; i < members.length; i++) {
                ObjectFile m = members[i];
                if (isObject(m)) {
                    objects++;
                    for (int j = 1; j < m.symbols; j++) {
                        if (m.isDefining(j)) {
                            link.probe.read(store, m.nameStart(j));
                            names++;
                            letters += link.probe.length + 1;
                        }
                    }
                }
            }
            if (objects > PACKED_OBJECTS) {
                return false;
            }
            to.clear();
            to.putAll(ARCHIVE);
            writeIndex(to, members, names, letters);
            writeObjects(to, members);
            return !to.over && to.size <= TAPE_LIMIT;
        }

        private static boolean isObject(ObjectFile m) {
            return m.kind == ALONE || m.kind == MEMBER;
        }

        private void writeIndex(Row to, ObjectFile[] members, int names, int letters) {
            int size = 4 + 4 * names + letters;
            to.put(1, 0x2f);
            writeAhead(to, size, to.size - 1);
            to.putHighestFirst(names);
            int at = to.size - 4 + size + (size & 1);
            for (int i = 0; i < members.length; i++) {
                ObjectFile m = members[i];
                for (int j = 1; isObject(m) && j < m.symbols; j++) {
                    if (m.isDefining(j)) {
                        to.putHighestFirst(at);
                    }
                }
                at += isObject(m) ? 60 + m.size + (m.size & 1) : 0;
            }
            for (int i = 0; i < members.length; i++) {
                ObjectFile m = members[i];
                for (int j = 1; isObject(m) && j < m.symbols; j++) {
                    if (m.isDefining(j)) {
                        link.probe.read(store, m.nameStart(j));
                        link.probe.writeTo(to);
                        to.put(1, 0);
                    }
                }
            }
            if ((size & 1) == 1) {
                to.put(1, 0x0a);
            }
        }

        private void writeObjects(Row to, ObjectFile[] members) {
            int k = 0;
            for (int i = 0; i < members.length; i++) {
                ObjectFile m = members[i];
                if (isObject(m)) {
                    int at = to.size;
                    to.put(1, 0x6f);
                    to.put(1, '0' + k);
                    to.put(1, 0x2f);
                    writeAhead(to, m.size, at);
                    to.copy(store.bytes, m.base, m.size);
                    if ((m.size & 1) == 1) {
                        to.put(1, 0x0a);
                    }
                    k++;
                }
            }
        }

        /** What comes behind a member's name in its 60 bytes ahead, which begin at that place. */
        private static void writeAhead(Row to, int size, int at) {
            to.fillTo(at + 48, ' ');
            to.putDecimal(size);
            to.fillTo(at + 58, ' ');
            to.put(2, 0x0a60);
        }

        boolean writeMerged(Row to) {
            if (numberParts() > SECTIONS || numberSymbols() > SYMBOLS) {
                return false;
            }
            to.clear();
            to.fillTo(64, 0);
            rows.clear();
            rows.fillTo(64, 0);
            for (int t = 0; t < link.taken; t++) {
                mergeParts(to, t);
                mergeSites(to, t);
            }
            mergeSymbols(to);
            mergeNames(to);
            int at = nextPlace(to);
            to.copy(rows.bytes, 0, rows.size);
            for (int k = 0; k < ELF.length; k++) {
                to.set(k, 1, ELF[k]);
            }
            to.set(16, 2, 1);
            to.set(18, 2, 62);
            to.set(20, 4, 1);
            to.set(40, 8, at);
            to.set(52, 2, 64);
            to.set(58, 2, 64);
            to.set(60, 2, symbolsSection + 2);
            to.set(62, 2, symbolsSection + 1);
            return !to.over && to.size <= TAPE_LIMIT;
        }

        /** How many sections there will be. */
        private int numberParts() {
            int n = 1;
            for (int t = 0; t < link.taken; t++) {
                for (int s = 0; s < SECTIONS; s++) {
                    Part p = link.part(t, s);
                    if (p.stays) {
                        p.fresh = n;
                        n++;
                    }
                }
                for (int i = 0; i < link.object(t).sections; i++) {
                    n += link.stayingTarget(t, i) == null ? 0 : 1;
                }
            }
            symbolsSection = n;
            return n + 2;
        }

        /** How many symbols there will be. */
        private int numberSymbols() {
            int n = 1;
            for (int t = 0; t < link.taken; t++) {
                ObjectFile m = link.object(t);
                for (int j = 0; j < m.symbols && j < SYMBOLS; j++) {
                    boolean local = link.nameOf(t, j) == null;
                    locals[t * SYMBOLS + j] = local && j > 0 ? n : 0;
                    n += local && j > 0 ? 1 : 0;
                }
            }
            localCount = n;
            listedCount = 0;
            for (int i = 0; i < link.names.count; i++) {
                link.names.at(i).number = 0;
            }
            for (int i = 0; i < link.ordered; i++) {
                listName(link.definedAt(i));
            }
            for (int i = 0; i < link.wished.count; i++) {
                listName(link.names.find(link.wished.at(i)));
            }
            for (int t = 0; t < link.taken; t++) {
                for (int j = 0; j < SYMBOLS; j++) {
                    listName(link.nameOf(t, j));
                }
            }
            return localCount + listedCount;
        }

        private void listName(Name n) {
            if (n == null || n.number != 0) {
                return;
            }
            n.number = localCount + listedCount;
            if (listedCount < listed.length) {
                listed[listedCount] = n;
            }
            listedCount++;
        }

        private void mergeParts(Row to, int t) {
            ObjectFile m = link.object(t);
            for (int s = 0; s < m.sections; s++) {
                Part p = link.part(t, s);
                if (p.stays) {
                    long type = m.typeOf(s);
                    putRow(type, m.flagsOf(s), nextPlace(to), p.size, 0, 0);
                    endRow(m.alignOf(s), 0);
                    if (type != 8) {
                        to.copy(store.bytes, p.start, p.size);
                    }
                }
            }
        }

        private void mergeSites(Row to, int t) {
            ObjectFile m = link.object(t);
            for (int i = 0; i < m.sections; i++) {
                Part target = link.stayingTarget(t, i);
                if (target == null) {
                    continue;
                }
                int sites = m.sitesOf(i);
                int at = (int) m.placeOf(i);
                putRow(4, 0, nextPlace(to), 24 * sites, symbolsSection, target.fresh);
                endRow(8, 24);
                for (int n = 0; n < sites; n++, at += 24) {
                    to.put(8, m.num(at, 8));
                    to.put(4, m.num(at + 8, 4));
                    to.put(4, freshSymbol(t, (int) m.num(at + 12, 4)));
                    to.put(8, m.num(at + 16, 8));
                }
            }
        }

        private int freshSymbol(int t, int j) {
            Name n = link.nameOf(t, j);
            if (n != null) {
                return n.number;
            }
            int i = t * SYMBOLS + j;
            return i >= 0 && i < locals.length ? locals[i] : 0;
        }

        /** Bytes of a section come next: where they begin. */
        private static int nextPlace(Row to) {
            to.fillTo(up(to.size, 8), 0);
            return to.size;
        }

        /** A section's row up to INFO; endRow() has the rest. */
        private void putRow(long type, long flags, long place, long size, int linked, int info) {
            rows.put(4, 0);
            rows.put(4, type);
            rows.put(8, flags);
            rows.put(8, 0);
            rows.put(8, place);
            rows.put(8, size);
            rows.put(4, linked);
            rows.put(4, info);
        }

        private void endRow(long align, int entry) {
            rows.put(8, align);
            rows.put(8, entry);
        }

        private void mergeSymbols(Row to) {
            int size = 24 * (localCount + listedCount);
            putRow(2, 0, nextPlace(to), size, symbolsSection + 1, localCount);
            endRow(8, 24);
            to.fillTo(to.size + 24, 0);
            for (int t = 0; t < link.taken; t++) {
                ObjectFile m = link.object(t);
                for (int j = 1; j < m.symbols; j++) {
                    if (link.nameOf(t, j) == null) {
                        mergeLocal(to, t, j);
                    }
                }
            }
            int place = 1;
            for (int i = 0; i < listedCount && i < listed.length; i++) {
                Name n = listed[i];
                if (n != null) {
                    mergeName(to, n, place);
                    place += n.length + 1;
                }
            }
        }

        private void mergeLocal(Row to, int t, int j) {
            ObjectFile m = link.object(t);
            int row = m.symbolPlace + 24 * j;
            int where = m.whereOf(j);
            long value = m.valueOf(j);
            if (where > 0 && where < SECTIONS) {
                Part p = link.part(t, where);
                where = p.stays ? p.fresh : FIXED;
                value = p.state == DROPPED ? 0 : value;
            }
            putSymbol(to, 0, (int) m.num(row + 4, 1), where, value, m.num(row + 16, 8));
        }

        /** The linker's own names are not defined in an object that it makes. */
        private void mergeName(Row to, Name n, int place) {
            if (!n.isDefinedByInput()) {
                putSymbol(to, place, n.isMissedOrWished() ? GLOBAL : WEAK, 0, 0, 0);
                return;
            }
            int where = n.home == IN_COMMON ? COMMON : FIXED;
            if (n.home == IN_SECTION && n.part != null) {
                where = n.part.fresh;
            }
            putSymbol(to, place, n.info, where, n.value, n.size);
        }

        private static void putSymbol(Row to, int place, int info, int where, long value,
                long size) {
            to.put(4, place);
            to.put(1, info);
            to.put(1, 0);
            to.put(2, where);
            to.put(8, value);
            to.put(8, size);
        }

        private void mergeNames(Row to) {
            int size = 1;
            for (int i = 0; i < listedCount && i < listed.length; i++) {
                size += listed[i] == null ? 0 : listed[i].length + 1;
            }
            putRow(3, 0, nextPlace(to), size, 0, 0);
            endRow(1, 0);
            to.put(1, 0);
            for (int i = 0; i < listedCount && i < listed.length; i++) {
                if (listed[i] != null) {
                    listed[i].writeTo(to);
                    to.put(1, 0);
                }
            }
        }

        boolean writeNamed(Row to, Row file) {
            int segments = layout.countSegments();
            to.clear();
            to.copy(file.bytes, 0, file.size);
            int symbols = nextPlace(to);
            to.fillTo(to.size + 24, 0);
            int letters = 1;
            for (int i = 0; i < link.ordered; i++) {
                Name n = link.definedAt(i);
                putSymbol(to, letters, n.info, rowOf(n), n.address, n.size);
                letters += n.length + 1;
            }
            int names = nextPlace(to);
            to.put(1, 0);
            for (int i = 0; i < link.ordered; i++) {
                link.definedAt(i).writeTo(to);
                to.put(1, 0);
            }
            int first = nextPlace(to);
            rows.clear();
            writeSegmentRows();
            putRow(2, 0, symbols, 24L * (link.ordered + 1), segments + 2, 1);
            endRow(8, 24);
            putRow(3, 0, names, letters, 0, 0);
            endRow(1, 0);
            to.copy(rows.bytes, 0, rows.size);
            to.set(40, 8, first);
            to.set(58, 2, 64);
            to.set(60, 2, segments + 3);
            to.set(62, 2, segments + 2);
            return !to.over;
        }

        /** The number of the row of the segment that has the name's definition. */
        private int rowOf(Name n) {
            boolean inPart = n.home == IN_SECTION && n.part != null && n.part.stays;
            boolean inCommon = n.home == IN_COMMON && n.stays;
            if (!inPart && !inCommon) {
                return FIXED;
            }
            int s = inCommon ? 2 : layout.segmentOf(n.part);
            if (!layout.there[s]) {
                return FIXED;
            }
            int row = 1;
            for (int k = 0; k < s; k++) {
                row += layout.there[k] ? 1 : 0;
            }
            return row;
        }

        private void writeSegmentRows() {
            rows.fillTo(64, 0);
            for (int s = 0; s < SEGMENTS; s++) {
                if (layout.there[s]) {
                    rows.put(4, 0);
                    rows.put(4, 1);
                    rows.put(8, ROW_FLAGS[s]);
                    rows.put(8, layout.base[s]);
                    rows.put(8, layout.filePlace[s]);
                    rows.put(8, layout.fileBytes[s]);
                    rows.put(8, 0);
                    endRow(16, 0);
                }
            }
        }

    }

    /** The executable that was booted last; its memory is read from a copy of its bytes. */
    private static final class Memory {
        final Row bytes;
        final long[] starts;
        final long[] sizes;
        final long[] fileSizes;
        final int[] places;
        final long[] flagBits;
        int rows;
        long entry;
        int symbolPlace;
        int symbols;
        int namePlace;
        int nameSize;
        int named;

        Memory() {
            bytes = new Row(OUT_LIMIT);
            starts = new long[8];
            sizes = new long[8];
            fileSizes = new long[8];
            places = new int[8];
            flagBits = new long[8];
        }

        int errorOf(Row x) {
            if (x.size < 64 || !x.begins(ELF) || x.num(16, 2) != 2 || x.num(18, 2) != 62
                    || x.num(20, 4) != 1 || x.num(54, 2) != 56) {
                return 1;
            }
            long at = x.num(32, 8);
            int n = (int) x.num(56, 2);
            if (n > 8 || !x.holds(at, 56L * n)) {
                return 2;
            }
            long end = 0;
            boolean entered = false;
            for (int r = 0; r < n; r++) {
                int row = (int) at + 56 * r;
                if (x.num(row, 4) == 1) {
                    int error = rowError(x, row, end);
                    if (error != 0) {
                        return error;
                    }
                    long start = x.num(row + 16, 8);
                    long room = x.num(row + 40, 8);
                    end = start + room;
                    boolean within = above(room, x.num(24, 8) - start);
                    entered = entered || within && (x.num(row + 4, 4) & 1) != 0;
                }
            }
            return entered ? 0 : 6;
        }

        private static int rowError(Row x, int row, long end) {
            long place = x.num(row + 8, 8);
            long start = x.num(row + 16, 8);
            long inFile = x.num(row + 32, 8);
            long room = x.num(row + 40, 8);
            long align = x.num(row + 48, 8);
            if (!x.holds(place, inFile)) {
                return 3;
            }
            if (above(inFile, room) || above(room, ROOM_LIMIT) || above(start, 1L << 47)
                    || (align & align - 1) != 0
                    || align != 0 && (start - place & align - 1) != 0) {
                return 4;
            }
            return start < end ? 5 : 0;
        }

        void load(Row x) {
            bytes.clear();
            bytes.copy(x.bytes, 0, x.size);
            entry = x.num(24, 8);
            int at = (int) x.num(32, 8);
            int n = (int) x.num(56, 2);
            rows = 0;
            for (int r = 0; r < n && rows < starts.length; r++) {
                int row = at + 56 * r;
                if (x.num(row, 4) == 1) {
                    flagBits[rows] = x.num(row + 4, 4);
                    places[rows] = (int) x.num(row + 8, 8);
                    starts[rows] = x.num(row + 16, 8);
                    fileSizes[rows] = x.num(row + 32, 8);
                    sizes[rows] = x.num(row + 40, 8);
                    rows++;
                }
            }
            findNames();
            named = 0;
            for (int j = 1; j < symbols; j++) {
                named += isName(j) ? 1 : 0;
            }
        }

        private void findNames() {
            symbols = 0;
            long at = bytes.num(40, 8);
            int n = (int) bytes.num(60, 2);
            if (bytes.num(58, 2) != 64 || n < 1 || n > SECTIONS || !bytes.holds(at, 64L * n)) {
                return;
            }
            int first = (int) at;
            for (int i = n - 1; i >= 0; i--) {
                first = bytes.num((int) at + 64 * i + 4, 4) == 2 ? (int) at + 64 * i : first;
            }
            long linked = bytes.num(first + 40, 4);
            int second = (int) at + 64 * (int) Math.min(linked, SECTIONS);
            if (bytes.num(first + 4, 4) != 2 || linked >= n || bytes.num(second + 4, 4) != 3) {
                return;
            }
            long size = bytes.num(first + 32, 8);
            boolean whole = bytes.holds(bytes.num(first + 24, 8), size)
                    && bytes.holds(bytes.num(second + 24, 8), bytes.num(second + 32, 8));
            if (whole && size % 24 == 0) {
                symbolPlace = (int) bytes.num(first + 24, 8);
                symbols = (int) size / 24;
                namePlace = (int) bytes.num(second + 24, 8);
                nameSize = (int) bytes.num(second + 32, 8);
            }
        }

        private boolean isName(int j) {
            int row = symbolPlace + 24 * j;
            int bind = bytes.at(row + 4) >> 4;
            if (bind != 1 && bind != 2 || bytes.num(row + 6, 2) == 0) {
                return false;
            }
            long at = bytes.num(row, 4);
            return at < nameSize
                    && bytes.nameLength(namePlace + (int) at, namePlace + nameSize) > 0;
        }

        long valueOf(int j) {
            return bytes.num(symbolPlace + 24 * j + 8, 8);
        }

        int nameStart(int j) {
            return namePlace + (int) bytes.num(symbolPlace + 24 * j, 4);
        }

        int nearest(long address) {
            int best = -1;
            for (int j = 1; j < symbols; j++) {
                boolean below = !above(valueOf(j), address);
                if (below && (best < 0 || above(valueOf(j), valueOf(best))) && isName(j)) {
                    best = j;
                }
            }
            return best;
        }

        int rowAt(long address) {
            for (int r = 0; r < rows && r < starts.length; r++) {
                if (above(sizes[r], address - starts[r])) {
                    return r;
                }
            }
            return -1;
        }

        int byteAt(long address) {
            int r = rowAt(address);
            if (r < 0) {
                return -1;
            }
            long k = address - starts[r];
            return k < fileSizes[r] ? bytes.at(places[r] + (int) k) : 0;
        }

        long flagsAt(long address) {
            int r = rowAt(address);
            return r < 0 ? -1 : flagBits[r];
        }
    }
}
