import java.util.Arrays;

/** A heap of records on slotted pages of bytes; ../shared/DOC.md tells what each call answers. */
public final class RecordHeap {
    public static final int NONE = -1;

    private static final int PAGES = 8;
    private static final int PAGE_BYTES = 64;
    private static final int SLOTS = 12;
    private static final int SLOT_BYTES = 2;
    private static final int PER_PAGE = 16;
    private static final int ADDRESSES = PAGES * PER_PAGE;
    private static final int LEVEL = 8;

    private static final int EMPTY = 0;
    private static final int RECORD = 1;
    private static final int STUB = 2;
    private static final int MOVED = 3;
    private static final int HEAD = 4;
    private static final int PIECE = 5;

    private static final int LINK_BYTES = 2;
    private static final int CELL_BYTES = 40;
    private static final int PART_BYTES = CELL_BYTES - LINK_BYTES;
    private static final int RECORD_BYTES = 200;
    private static final int BYTE_MOST = 255;
    private static final int LAST = 255;
    private static final int TAPE_BYTES = 400;
    private static final int FEED_BYTES = 20;

    private static final int CANT_BE = -1;
    private static final int NO_SUCH = -2;
    private static final int NOT_NOW = -3;
    private static final int NO_ROOM = -5;
    private static final int BAD_TEXT = -6;
    private static final int REFUSALS = 5;

    private static final int TIME = 0;
    private static final int SLIPS = 1;
    private static final int MOOD = 2;
    private static final int TERMS = 3;
    private static final int[] TERM_MOST = {999, 10, 9};
    private static final int SLIPS_OF = 10;

    private static final int LAWS = 6;
    private static final int IMAGES = 2;
    private static final int UNDOABLE = 16;

    private static final int CLAUSES = 12;
    private static final int PARTS = 50;
    private static final int BRACKETS = 8;
    private static final int NUMBER_MOST = 1000;
    private static final int TIMES_MOST = 20;

    private static final String LAW_KINDS = "leaves bars";
    private static final int BARS = 1;
    private static final String ORDER_KINDS = "put grow drop pack mend";
    private static final int PUT = 0;
    private static final int GROW = 1;
    private static final int DROP = 2;
    private static final int PACK = 3;
    private static final int MEND = 4;

    private static final String LAW_WORDS = "page size free slots promise time mood";
    private static final String ORDER_WORDS = "time done latest live free promise";
    private static final int PAGE_WORDS = 4;
    private static final int WORDS = PAGE_WORDS + 2 * PAGES;
    private static final int GROWN_BYTE = 7;

    private static final int BEHIND = -1;
    private static final int BLANK = 0;
    private static final int SINGLE = 1;
    private static final int LETTER = 2;
    private static final int DIGIT = 3;

    private static final int STEPS = 16;
    private static final int NUMBER = 0;
    private static final int WORD = 1;
    private static final int ADD = 2;
    private static final int TAKE = 3;
    private static final int MULTIPLY = 4;
    private static final int DIVIDE = 5;
    private static final int REST = 6;
    private static final int LESS = 7;
    private static final int MORE = 8;
    private static final int NOT = 10;
    private static final int AND = 11;
    private static final int OR = 12;

    private static final int MARKS = 6;
    private static final int KIND = 0;
    private static final int TIMES = 1;
    private static final int FIRST = 2;
    private static final int SECOND = 3;
    private static final int TEST = 4;
    private static final int CLOSE = 5;

    private static final long SUM_MOST = 1_000_000_000L;
    private static final long BROKEN = -9_000_000_000_000_000_000L;
    private static final int STACK = 64;

    private static final int FEW_MOST = 20;
    private static final int FEW_BYTES_MOST = 99;
    private static final long SURE = 1_000_000_000_000L;

    private static final int SEED_MOST = 1_000_000;
    private static final int DAYS_MOST = 60;
    private static final int DRAW_TIMES = 1103;
    private static final int DRAW_MORE = 12345;
    private static final int DRAW_REST = 1_000_003;

    private final Row tape = new Row(TAPE_BYTES);
    private final Row viewed = new Row(RECORD_BYTES);
    private final Row made = new Row(RECORD_BYTES);
    private final Reader reader = new Reader();
    private final Machine machine = new Machine();
    private final Setting setting = new Setting();
    private final Desk live = new Desk(setting, machine);
    private final Desk paper = new Desk(setting, machine);
    private final Log log = new Log();
    private final Runner runner = new Runner(live, machine, made);
    private final Calendar calendar = new Calendar(paper, made);
    private final Image[] images = new Image[IMAGES];
    private final long[] parts = new long[FEW_MOST];
    private final int[] refused = new int[REFUSALS];
    private int stoppedAt = NONE;
    private int latestStatus = 0;

    public RecordHeap() {
    }

    public int terms(int what, int value) {
        if (what < 0 || what >= TERMS || value < 0 || value > TERM_MOST[what]) {
            return refuse(CANT_BE);
        }
        int was = setting.values[what];
        setting.values[what] = value;
        return told(was);
    }

    public int feed(int a, int b, int c, int d, int e) {
        if (tape.length + FEED_BYTES > TAPE_BYTES) {
            return NONE;
        }
        tape.addNumber(a);
        tape.addNumber(b);
        tape.addNumber(c);
        tape.addNumber(d);
        tape.addNumber(e);
        return tape.length;
    }

    public int end(int n) {
        if (n < 0 || n > tape.length) {
            return NONE;
        }
        tape.length = n;
        return n;
    }

    public int law() {
        boolean room = setting.lawCount < LAWS;
        boolean fine = room && reader.readAll(tape, false);
        tape.length = 0;
        if (!room) {
            return refuse(NO_ROOM);
        }
        if (!fine) {
            return refuse(BAD_TEXT);
        }
        return told(setting.addLaw(reader.text.trimmed()));
    }

    public int orders() {
        boolean fine = reader.readAll(tape, true);
        tape.length = 0;
        stoppedAt = NONE;
        if (!fine) {
            return refuse(BAD_TEXT);
        }
        runner.begin();
        Text text = reader.text;
        for (int clause = 0; clause < text.clauses && stoppedAt == NONE; clause++) {
            int times = text.marks[clause * MARKS + TIMES];
            for (int i = 0; i < times && stoppedAt == NONE; i++) {
                if (!runner.carryOut(text, clause)) {
                    stoppedAt = clause;
                }
            }
        }
        if (stoppedAt != NONE) {
            runner.takeBack();
            return refuse(NOT_NOW);
        }
        log.addAll(runner.fresh);
        return told(runner.done);
    }

    public int fault() {
        return reader.faultAt;
    }

    public int stopped() {
        return stoppedAt;
    }

    public int force(int law) {
        if (law != NONE && !setting.hasLaw(law)) {
            return refuse(NO_SUCH);
        }
        int was = setting.forced;
        setting.forced = law;
        return told(was);
    }

    public int put() {
        boolean fine = tape.length <= RECORD_BYTES;
        int address = fine ? live.bring(tape) : NONE;
        tape.length = 0;
        if (!fine) {
            return refuse(BAD_TEXT);
        }
        if (address == NONE) {
            return refuse(NO_ROOM);
        }
        log.push(PUT, live.before);
        return told(address);
    }

    public int rewrite(int address) {
        boolean there = live.pages.isRecord(address);
        boolean fine = tape.length <= RECORD_BYTES;
        int how = there && fine ? live.writeAnew(address, tape) : NONE;
        tape.length = 0;
        if (!there) {
            return refuse(NO_SUCH);
        }
        if (!fine) {
            return refuse(BAD_TEXT);
        }
        if (how == NONE) {
            return refuse(NO_ROOM);
        }
        log.push(GROW, live.before);
        return told(how);
    }

    public int drop(int address) {
        if (!live.pages.isRecord(address)) {
            return refuse(NO_SUCH);
        }
        int size = live.pages.sizeOf(address);
        live.takeAway(address);
        log.push(DROP, live.before);
        return told(size);
    }

    public int pack(int page) {
        if (!isPage(page)) {
            return refuse(CANT_BE);
        }
        int waste = live.pages.wasteOf(page);
        live.packPage(page);
        log.push(PACK, live.before);
        return told(waste);
    }

    public int mend() {
        int others = live.mendAll();
        log.push(MEND, live.before);
        return told(others);
    }

    public int undo() {
        if (log.length == 0) {
            return refuse(NOT_NOW);
        }
        return told(log.pull(live.pages));
    }

    public int view(int address) {
        if (!live.pages.isRecord(address)) {
            return NONE;
        }
        int size = live.pages.sizeOf(address);
        viewed.length = 0;
        for (int i = 0; i < size; i++) {
            viewed.add(live.pages.byteAt(address, i));
        }
        return viewed.length;
    }

    public int sign(int i) {
        return i < 0 || i >= viewed.length ? NONE : viewed.bytes[i];
    }

    public int page(int page, int what) {
        if (!isPage(page)) {
            return NONE;
        }
        switch (what) {
            case 0:
                return live.pages.lengths[page];
            case 1:
                return live.pages.cellsOf(page);
            case 2:
                return live.pages.freeOf(page);
            case 3:
                return live.pages.gapOf(page);
            case 4:
                return live.pages.wasteOf(page);
            case 5:
                return live.pages.promises[page];
            default:
                return NONE;
        }
    }

    public int slot(int page, int slot, int what) {
        if (!isPage(page) || slot < 0 || slot >= live.pages.lengths[page] || what < 0) {
            return NONE;
        }
        int address = page * PER_PAGE + slot;
        int kind = live.pages.kinds[address];
        if (what == 0) {
            return kind;
        }
        if (kind == EMPTY) {
            return NONE;
        }
        if (what == 1) {
            return live.pages.begins[address];
        }
        return what == 2 ? live.pages.sizes[address] : live.pages.cellByte(address, what - 3);
    }

    public int map(int node) {
        if (node < 1 || node >= 2 * PAGES) {
            return NONE;
        }
        int low = node;
        int high = node;
        for (int i = 0; i < PAGES && low < PAGES; i++) {
            low = 2 * low;
            high = 2 * high + 1;
        }
        int most = 0;
        for (int page = low - PAGES; page <= high - PAGES; page++) {
            most = Math.max(most, live.pages.promises[page]);
        }
        return most;
    }

    public int search(int m) {
        return isCellSize(m) ? live.pageFor(m, setting.lawInForce()) : NONE;
    }

    public int scan(int i) {
        if (i < 0) {
            return NONE;
        }
        int ahead = 0;
        for (int address = 0; address < ADDRESSES; address++) {
            if (live.pages.isRecord(address)) {
                if (ahead == i) {
                    return address;
                }
                ahead++;
            }
        }
        return NONE;
    }

    public int above(int address) {
        return address >= ADDRESSES ? NONE : live.pages.recordFrom(address + 1);
    }

    public int pieces(int address, int what) {
        if (!live.pages.isRecord(address) || what < 0 || what > 1) {
            return NONE;
        }
        int cells = 0;
        int seen = 0;
        int at = address;
        for (int i = 0; i < ADDRESSES && at != NONE; i++) {
            cells++;
            seen |= 1 << at / PER_PAGE;
            at = live.pages.followerOf(at);
        }
        return what == 0 ? cells : Integer.bitCount(seen);
    }

    public int sorted(int i) {
        if (i < 0) {
            return NONE;
        }
        for (int address = 0; address < ADDRESSES; address++) {
            if (live.pages.isRecord(address) && live.pages.rankOf(address) == i) {
                return address;
            }
        }
        return NONE;
    }

    public int find() {
        int found = NONE;
        for (int address = 0; address < ADDRESSES && found == NONE; address++) {
            if (live.pages.isRecord(address) && live.pages.holdsJust(address, tape)) {
                found = address;
            }
        }
        tape.length = 0;
        return found;
    }

    public int fit(int n) {
        if (n < 0 || n > RECORD_BYTES) {
            return NONE;
        }
        paper.pages.takeFrom(live.pages);
        made.repeat(n, 0);
        int came = 0;
        for (int i = 0; i < ADDRESSES && paper.bring(made) != NONE; i++) {
            came++;
        }
        return came;
    }

    public int worst(int i) {
        if (i < 0) {
            return NONE;
        }
        for (int page = 0; page < PAGES; page++) {
            if (live.pages.wasteRankOf(page) == i) {
                return page;
            }
        }
        return NONE;
    }

    public long few(int k, int n) {
        if (k < 1 || k > FEW_MOST || n < 0 || n > FEW_BYTES_MOST) {
            return NONE;
        }
        long slips = setting.values[SLIPS];
        Arrays.fill(parts, 0);
        parts[0] = SURE;
        for (int i = 0; i < n; i++) {
            for (int j = k - 1; j >= 0; j--) {
                long more = j > 0 ? parts[j - 1] * slips / SLIPS_OF : 0;
                parts[j] = parts[j] * (SLIPS_OF - slips) / SLIPS_OF + more;
            }
        }
        long together = 0;
        for (int j = 0; j < k; j++) {
            together += parts[j];
        }
        return together;
    }

    public int compare(int law, int m) {
        if (!isCellSize(m) || law != NONE && !setting.hasLaw(law)) {
            return NONE;
        }
        return live.pageFor(m, setting.lawOf(law));
    }

    public int days(int seed, int n) {
        if (seed < 0 || seed > SEED_MOST || n < 1 || n > DAYS_MOST) {
            return refuse(CANT_BE);
        }
        paper.pages.takeFrom(live.pages);
        calendar.begin(seed);
        for (int i = 0; i < n; i++) {
            calendar.passDay();
        }
        calendar.keep();
        return told(paper.pages.recordCount());
    }

    public int drawn(int page, int what) {
        return isPage(page) ? calendar.drawnOf(page, what) : NONE;
    }

    public int image(int k) {
        if (k < 0 || k >= IMAGES) {
            return refuse(CANT_BE);
        }
        if (images[k] == null) {
            images[k] = new Image();
        }
        images[k].pages.takeFrom(live.pages);
        images[k].setting.takeFrom(setting);
        return told(0);
    }

    public int back(int k) {
        if (k < 0 || k >= IMAGES) {
            return refuse(CANT_BE);
        }
        if (images[k] == null) {
            return refuse(NO_SUCH);
        }
        live.pages.takeFrom(images[k].pages);
        setting.takeFrom(images[k].setting);
        log.length = 0;
        return told(0);
    }

    public int count(int what) {
        switch (what) {
            case 0:
                return live.pages.recordCount();
            case 1:
                return live.pages.recordBytes();
            case 2:
                return live.pages.cellsOfKind(STUB);
            case 3:
                return live.pages.cellsOfKind(PIECE);
            case 4:
                return setting.lawCount;
            case 5:
                return log.length;
            case 6:
                return tape.length;
            case 12:
                return setting.forced;
            default:
                return rowCount(what);
        }
    }

    public int status() {
        return latestStatus;
    }

    /** Those counts that stand in rows: refusals and terms. */
    private int rowCount(int what) {
        if (what >= 7 && what < 7 + REFUSALS) {
            return refused[what - 7];
        }
        return what >= 13 && what < 13 + TERMS ? setting.values[what - 13] : NONE;
    }

    private int told(int answer) {
        latestStatus = 0;
        return answer;
    }

    private int refuse(int by) {
        latestStatus = by;
        // There is no refusal by -4: those below it move up in the row.
        int at = by >= NOT_NOW ? -1 - by : -2 - by;
        if (at >= 0 && at < REFUSALS) {
            refused[at]++;
        }
        return by;
    }

    private static boolean isPage(int page) {
        return page >= 0 && page < PAGES;
    }

    private static boolean isCellSize(int m) {
        return m >= 0 && m <= CELL_BYTES;
    }

    private static boolean isAddress(int address) {
        return address >= 0 && address < ADDRESSES;
    }

    /** A row of bytes with a length of its own. */
    private static final class Row {
        private final int[] bytes;
        private int length;

        private Row(int most) {
            bytes = new int[Math.max(0, most)];
        }

        private void add(int value) {
            if (length < bytes.length) {
                bytes[length] = value;
                length++;
            }
        }

        private void addNumber(int number) {
            for (int shift = 24; shift >= 0; shift -= 8) {
                add(number >> shift & BYTE_MOST);
            }
        }

        private void repeat(int n, int value) {
            length = 0;
            for (int i = 0; i < n && i < bytes.length; i++) {
                add(value);
            }
        }

        /** The bytes of a cell that tell the next cell, and no others yet. */
        private void link(int next) {
            length = 0;
            add(next == LAST ? LAST : 0);
            add(next);
        }

        /** A cell's bytes: those that tell the next cell, if there is one to tell, then a part of a record. */
        private void assemble(int next, Row row, int from, int to) {
            length = 0;
            if (next != NONE) {
                link(next);
            }
            for (int i = Math.max(0, from); i < to && i < row.length; i++) {
                add(row.bytes[i]);
            }
        }
    }

    /** What stands on the pages, and what is promised of them. */
    private static final class Pages {
        private final int[] kinds = new int[ADDRESSES];
        private final int[] begins = new int[ADDRESSES];
        private final int[] sizes = new int[ADDRESSES];
        private final int[] lengths = new int[PAGES];
        private final int[] promises = new int[PAGES];
        private final int[] bytes = new int[PAGES * PAGE_BYTES];

        private Pages() {
            Arrays.fill(promises, PAGE_BYTES / LEVEL);
        }

        private void takeFrom(Pages other) {
            System.arraycopy(other.kinds, 0, kinds, 0, ADDRESSES);
            System.arraycopy(other.begins, 0, begins, 0, ADDRESSES);
            System.arraycopy(other.sizes, 0, sizes, 0, ADDRESSES);
            System.arraycopy(other.lengths, 0, lengths, 0, PAGES);
            System.arraycopy(other.promises, 0, promises, 0, PAGES);
            System.arraycopy(other.bytes, 0, bytes, 0, PAGES * PAGE_BYTES);
        }

        private int freeOf(int page) {
            int free = PAGE_BYTES - SLOT_BYTES * lengths[page];
            for (int slot = 0; slot < lengths[page]; slot++) {
                free -= sizes[page * PER_PAGE + slot];
            }
            return free;
        }

        private int lowestOf(int page) {
            int lowest = PAGE_BYTES;
            for (int slot = 0; slot < lengths[page]; slot++) {
                int address = page * PER_PAGE + slot;
                if (kinds[address] != EMPTY) {
                    lowest = Math.min(lowest, begins[address]);
                }
            }
            return lowest;
        }

        private int gapOf(int page) {
            return lowestOf(page) - SLOT_BYTES * lengths[page];
        }

        private int wasteOf(int page) {
            return freeOf(page) - gapOf(page);
        }

        private int cellsOf(int page) {
            int cells = 0;
            for (int slot = 0; slot < lengths[page]; slot++) {
                if (kinds[page * PER_PAGE + slot] != EMPTY) {
                    cells++;
                }
            }
            return cells;
        }

        private void promise(int page) {
            promises[page] = freeOf(page) / LEVEL;
        }

        /** The slot where a cell would come, but for the address that is kept; NONE if there is none. */
        private int openSlot(int page, int kept) {
            for (int slot = 0; slot < lengths[page]; slot++) {
                int address = page * PER_PAGE + slot;
                if (kinds[address] == EMPTY && address != kept) {
                    return slot;
                }
            }
            return lengths[page] < SLOTS ? lengths[page] : NONE;
        }

        private boolean isRecord(int address) {
            if (!isAddress(address)) {
                return false;
            }
            int kind = kinds[address];
            return kind == RECORD || kind == STUB || kind == HEAD;
        }

        /** How many of a cell's bytes tell the next cell. */
        private int linkOf(int address) {
            int kind = kinds[address];
            return kind == STUB || kind == HEAD || kind == PIECE ? LINK_BYTES : 0;
        }

        /** The address of the record's next cell; NONE behind the last one. */
        private int followerOf(int address) {
            if (linkOf(address) == 0) {
                return NONE;
            }
            int next = cellByte(address, 1);
            return isAddress(next) ? next : NONE;
        }

        private int cellByte(int address, int k) {
            if (k < 0 || k >= sizes[address]) {
                return NONE;
            }
            return bytes[address / PER_PAGE * PAGE_BYTES + begins[address] + k];
        }

        private int sizeOf(int address) {
            int size = 0;
            int at = address;
            for (int i = 0; i < ADDRESSES && at != NONE; i++) {
                size += sizes[at] - linkOf(at);
                at = followerOf(at);
            }
            return size;
        }

        /** The k-th byte of a record, by whatever cells; NONE behind its last one. */
        private int byteAt(int address, int k) {
            int at = address;
            int left = k;
            for (int i = 0; i < ADDRESSES && at != NONE; i++) {
                int link = linkOf(at);
                if (left < sizes[at] - link) {
                    return cellByte(at, link + left);
                }
                left -= sizes[at] - link;
                at = followerOf(at);
            }
            return NONE;
        }

        /** The lowest address of a record that is not below a number. */
        private int recordFrom(int least) {
            for (int address = Math.max(0, least); address < ADDRESSES; address++) {
                if (isRecord(address)) {
                    return address;
                }
            }
            return NONE;
        }

        private int recordCount() {
            return cellsOfKind(RECORD) + cellsOfKind(STUB) + cellsOfKind(HEAD);
        }

        private int recordBytes() {
            int together = 0;
            for (int address = 0; address < ADDRESSES; address++) {
                if (isRecord(address)) {
                    together += sizeOf(address);
                }
            }
            return together;
        }

        private int cellsOfKind(int kind) {
            int cells = 0;
            for (int address = 0; address < ADDRESSES; address++) {
                if (kinds[address] == kind) {
                    cells++;
                }
            }
            return cells;
        }

        /** How many records are ahead of this one in order. */
        private int rankOf(int address) {
            int ahead = 0;
            for (int other = 0; other < ADDRESSES; other++) {
                if (isRecord(other) && isAhead(other, address)) {
                    ahead++;
                }
            }
            return ahead;
        }

        private boolean isAhead(int one, int other) {
            for (int k = 0; k <= RECORD_BYTES; k++) {
                int left = byteAt(one, k);
                int right = byteAt(other, k);
                if (left != right) {
                    // NONE is below each byte: a record that ends comes ahead of one that goes on.
                    return left < right;
                }
                if (left == NONE) {
                    return one < other;
                }
            }
            return false;
        }

        private boolean holdsJust(int address, Row row) {
            if (sizeOf(address) != row.length) {
                return false;
            }
            for (int k = 0; k < row.length; k++) {
                if (byteAt(address, k) != row.bytes[k]) {
                    return false;
                }
            }
            return true;
        }

        private int wasteRankOf(int page) {
            int waste = wasteOf(page);
            int ahead = 0;
            for (int other = 0; other < PAGES; other++) {
                int others = wasteOf(other);
                if (others > waste || others == waste && other < page) {
                    ahead++;
                }
            }
            return ahead;
        }

        private void write(int address, int kind, int begin, Row cell) {
            kinds[address] = kind;
            begins[address] = begin;
            sizes[address] = cell.length;
            int base = address / PER_PAGE * PAGE_BYTES + begin;
            for (int k = 0; k < cell.length && base + k < bytes.length; k++) {
                bytes[base + k] = cell.bytes[k];
            }
        }

        /** A cell leaves; the directory ends where its last cell or the kept address is. */
        private void clear(int address, int kept) {
            kinds[address] = EMPTY;
            sizes[address] = 0;
            int page = address / PER_PAGE;
            for (int slot = lengths[page] - 1; slot >= 0; slot--) {
                int last = page * PER_PAGE + slot;
                if (kinds[last] != EMPTY || last == kept) {
                    return;
                }
                lengths[page] = slot;
            }
        }
    }

    /** A text that was read: the steps of its sums and tests, and where those of each clause are. */
    private static final class Text {
        private final int[] code;
        private final int[] marks;
        private int length;
        private int clauses;

        private Text(int[] code, int[] marks) {
            this.code = code;
            this.marks = marks;
        }

        private void add(int step, int with) {
            if (length < code.length) {
                code[length] = step + STEPS * with;
                length++;
            }
        }

        /** Adds a jump that goes nowhere yet: its place. */
        private int addJump(int step) {
            add(step, 0);
            return length - 1;
        }

        /** Lets a jump lead to where the next step comes. */
        private void aim(int jump) {
            if (jump >= 0 && jump < length) {
                code[jump] = code[jump] % STEPS + STEPS * length;
            }
        }

        private void mark(int what, int value) {
            int at = clauses * MARKS + what;
            if (at >= 0 && at < marks.length) {
                marks[at] = value;
            }
        }

        private Text trimmed() {
            Text copy = new Text(Arrays.copyOf(code, length), Arrays.copyOf(marks, clauses * MARKS));
            copy.length = length;
            copy.clauses = clauses;
            return copy;
        }
    }

    /** Reads a tape token by token; stops at the first token that can't go on there. */
    private static final class Reader {
        private final Text text = new Text(new int[TAPE_BYTES], new int[CLAUSES * MARKS]);
        private final int[] kinds = new int[TAPE_BYTES + 1];
        private Row tape = new Row(0);
        private boolean ofOrders = false;
        private int from = 0;
        private int to = 0;
        private int partCount = 0;
        private int faultAt = NONE;

        private boolean readAll(Row row, boolean asOrders) {
            tape = row;
            ofOrders = asOrders;
            for (int i = 0; i <= TAPE_BYTES; i++) {
                kinds[i] = i < row.length && i < row.bytes.length ? kindOf(row.bytes[i]) : BEHIND;
            }
            to = 0;
            partCount = 0;
            faultAt = NONE;
            text.length = 0;
            text.clauses = 0;
            next();
            boolean fine = readClause();
            for (int i = 0; i < TAPE_BYTES && fine && placeIn(";") == 0; i++) {
                next();
                fine = readClause();
            }
            return fine && (kinds[from] == BEHIND || stop());
        }

        private static int kindOf(int value) {
            if (value == ' ') {
                return BLANK;
            }
            if (value >= 'a' && value <= 'z') {
                return LETTER;
            }
            return value >= '0' && value <= '9' ? DIGIT : SINGLE;
        }

        /** The token can't go on here. */
        private boolean stop() {
            faultAt = from;
            return false;
        }

        private void next() {
            from = to;
            while (from < TAPE_BYTES && kinds[from] == BLANK) {
                from++;
            }
            int kind = kinds[from];
            to = kind == BEHIND ? from : from + 1;
            while (to < TAPE_BYTES && kinds[to] == kind && (kind == LETTER || kind == DIGIT)) {
                to++;
            }
        }

        /** Which of some words, blanks between, the token is; NONE if it is none of them. */
        private int placeIn(String words) {
            int place = 0;
            int at = from;
            boolean alike = from < to;
            for (int i = 0; i <= words.length(); i++) {
                if (i < words.length() && words.charAt(i) != ' ') {
                    alike = alike && at < to && tape.bytes[at] == words.charAt(i);
                    at++;
                } else if (alike && at == to) {
                    return place;
                } else {
                    place++;
                    at = from;
                    alike = from < to;
                }
            }
            return NONE;
        }

        /** The number that the token is; NONE if it is none, or not from least to most. */
        private int numberIn(int least, int most) {
            if (kinds[from] != DIGIT) {
                return NONE;
            }
            int value = 0;
            for (int i = from; i < to; i++) {
                value = Math.min(10 * value + tape.bytes[i] - '0', NUMBER_MOST + 1);
            }
            return value >= least && value <= most ? value : NONE;
        }

        private boolean readClause() {
            int kind = placeIn(ofOrders ? ORDER_KINDS : LAW_KINDS);
            if (text.clauses >= CLAUSES || kind == NONE) {
                return stop();
            }
            next();
            text.mark(KIND, kind);
            if (!readSums(kind) || !readTimes()) {
                return false;
            }
            text.mark(TEST, text.length);
            if (placeIn("if") == 0) {
                next();
                if (!readTest(0)) {
                    return false;
                }
            }
            text.mark(CLOSE, text.length);
            text.clauses++;
            return true;
        }

        private boolean readSums(int kind) {
            boolean bare = ofOrders ? kind == MEND : kind == BARS;
            text.mark(FIRST, text.length);
            if (!bare && !readSum(0)) {
                return false;
            }
            text.mark(SECOND, text.length);
            if (!ofOrders || kind > GROW) {
                return true;
            }
            if (placeIn(kind == PUT ? "of" : "to") != 0) {
                return stop();
            }
            next();
            return readSum(0);
        }

        private boolean readTimes() {
            int times = 1;
            if (ofOrders && placeIn("times") == 0) {
                next();
                times = numberIn(1, TIMES_MOST);
                if (times == NONE) {
                    return stop();
                }
                next();
            }
            text.mark(TIMES, times);
            return true;
        }

        /** An "and" behind what is not so leads to the next "and" or "or", an "or" behind what is so to the next "or". */
        private boolean readTest(int depth) {
            int lastAnd = NONE;
            int lastOr = NONE;
            boolean fine = readPlain(depth);
            for (int i = 0; i < TAPE_BYTES && fine; i++) {
                int word = placeIn("and or");
                text.aim(lastAnd);
                if (word != 0) {
                    text.aim(lastOr);
                }
                if (word == NONE) {
                    return true;
                }
                lastAnd = word == 0 ? text.addJump(AND) : NONE;
                lastOr = word == 0 ? lastOr : text.addJump(OR);
                next();
                fine = readPlain(depth);
            }
            return false;
        }

        private boolean readPlain(int depth) {
            boolean turned = false;
            for (int i = 0; i < TAPE_BYTES && placeIn("not") == 0; i++) {
                turned = !turned;
                next();
            }
            if (placeIn("(") == 0) {
                if (depth >= BRACKETS) {
                    return stop();
                }
                next();
                if (!readTest(depth + 1)) {
                    return false;
                }
                if (placeIn(")") != 0) {
                    return stop();
                }
                next();
            } else {
                if (!readSum(depth)) {
                    return false;
                }
                int sign = placeIn("< > =");
                if (sign == NONE) {
                    return stop();
                }
                next();
                if (!readSum(depth)) {
                    return false;
                }
                text.add(LESS + sign, 0);
            }
            if (turned) {
                text.add(NOT, 0);
            }
            return true;
        }

        /** A sign waits until its second part is there: that of a term for a part, that of a sum for a whole term. */
        private boolean readSum(int depth) {
            int ofTerm = NONE;
            int ofSum = NONE;
            for (int i = 0; i < TAPE_BYTES && readPart(depth); i++) {
                if (ofTerm != NONE) {
                    text.add(ofTerm, 0);
                }
                int sign = placeIn("* / %");
                ofTerm = sign == NONE ? NONE : MULTIPLY + sign;
                if (sign == NONE) {
                    if (ofSum != NONE) {
                        text.add(ofSum, 0);
                    }
                    sign = placeIn("+ -");
                    if (sign == NONE) {
                        return true;
                    }
                    ofSum = ADD + sign;
                }
                next();
            }
            return false;
        }

        private boolean readPart(int depth) {
            if (placeIn("[") == 0) {
                if (depth >= BRACKETS) {
                    return stop();
                }
                next();
                if (!readSum(depth + 1)) {
                    return false;
                }
                if (placeIn("]") != 0) {
                    return stop();
                }
                next();
                return true;
            }
            int number = numberIn(0, NUMBER_MOST);
            int word = placeIn(ofOrders ? ORDER_WORDS : LAW_WORDS);
            if (partCount >= PARTS || number == NONE && word == NONE) {
                return stop();
            }
            partCount++;
            next();
            if (number != NONE) {
                text.add(NUMBER, number);
                return true;
            }
            if (ofOrders && word >= PAGE_WORDS) {
                int page = numberIn(0, PAGES - 1);
                if (page == NONE) {
                    return stop();
                }
                word = PAGE_WORDS + (word - PAGE_WORDS) * PAGES + page;
                next();
            }
            text.add(WORD, word);
            return true;
        }
    }

    /** Answers the sums and tests of texts by what its words are then. */
    private static final class Machine {
        private final long[] words = new long[WORDS];
        private final long[] stack = new long[STACK];

        /** A sum, a test (1 it is so, 0 it is not), or BROKEN; 1 for one that is not there. */
        private long answer(Text text, int clause, int what) {
            int first = text.marks[clause * MARKS + what];
            int behind = text.marks[clause * MARKS + what + 1];
            int top = -1;
            for (int i = first; i < behind; i++) {
                int step = text.code[i] % STEPS;
                int with = text.code[i] / STEPS;
                boolean isPart = step == NUMBER || step == WORD;
                int needed = isPart ? -1 : step >= NOT ? 0 : 1;
                if (top < needed || top + 1 >= STACK) {
                    return BROKEN;
                }
                if (isPart) {
                    top++;
                    stack[top] = step == NUMBER ? with : words[with];
                } else if (step == NOT) {
                    stack[top] = 1 - stack[top];
                } else if (step < NOT) {
                    top--;
                    stack[top] = joined(step, stack[top], stack[top + 1]);
                    if (stack[top] == BROKEN) {
                        return BROKEN;
                    }
                } else if (stack[top] == (step == AND ? 0 : 1)) {
                    i = Math.max(i, with - 1);
                } else {
                    top--;
                }
            }
            return top < 0 ? 1 : stack[top];
        }

        private static long joined(int step, long left, long right) {
            long result = BROKEN;
            switch (step) {
                case ADD:
                    result = left + right;
                    break;
                case TAKE:
                    result = left - right;
                    break;
                case MULTIPLY:
                    result = left * right;
                    break;
                case DIVIDE:
                    result = right == 0 ? BROKEN : left / right;
                    break;
                case REST:
                    result = right == 0 ? BROKEN : left % right;
                    break;
                case LESS:
                    result = left < right ? 1 : 0;
                    break;
                case MORE:
                    result = left > right ? 1 : 0;
                    break;
                default:
                    result = left == right ? 1 : 0;
            }
            return result < -SUM_MOST || result > SUM_MOST ? BROKEN : result;
        }
    }

    /** The terms, the laws, and which one is in force. Laws never change, so that settings share them. */
    private static final class Setting {
        private final int[] values = new int[TERMS];
        private final Text[] laws = new Text[LAWS];
        private int lawCount = 0;
        private int forced = NONE;

        private Setting() {
            values[SLIPS] = 1;
        }

        private void takeFrom(Setting other) {
            System.arraycopy(other.values, 0, values, 0, TERMS);
            for (int i = 0; i < LAWS; i++) {
                laws[i] = other.laws[i];
            }
            lawCount = other.lawCount;
            forced = other.forced;
        }

        private boolean hasLaw(int law) {
            return law >= 0 && law < lawCount;
        }

        private Text lawOf(int law) {
            return hasLaw(law) ? laws[law] : null;
        }

        private Text lawInForce() {
            return lawOf(forced);
        }

        private int addLaw(Text text) {
            if (lawCount >= LAWS) {
                return NONE;
            }
            laws[lawCount] = text;
            lawCount++;
            return lawCount - 1;
        }
    }

    /** Pages on which records come, change and go by the setting: the live ones, or others on paper. */
    private static final class Desk {
        private final Setting setting;
        private final Machine machine;
        private final Pages pages = new Pages();
        private final Pages before = new Pages();
        private final Row cell = new Row(CELL_BYTES);
        private final int[] spare = new int[PAGE_BYTES];
        private int kept = NONE;

        private Desk(Setting setting, Machine machine) {
            this.setting = setting;
            this.machine = machine;
        }

        /** Puts a record: its address, or NONE, and all is as it was. */
        private int bring(Row row) {
            before.takeFrom(pages);
            int address;
            if (row.length <= CELL_BYTES) {
                cell.assemble(NONE, row, 0, row.length);
                address = layOn(pageFor(cell.length, setting.lawInForce()), RECORD);
            } else {
                int next = layPieces(row);
                cell.assemble(next, row, 0, PART_BYTES);
                address = next == NONE ? NONE : layOn(pageFor(cell.length, setting.lawInForce()), HEAD);
            }
            if (address == NONE) {
                pages.takeFrom(before);
            }
            return address;
        }

        /** Writes a record anew: 0 it lies whole, 1 it moved, 2 it is long; or NONE, and all is as it was. */
        private int writeAnew(int address, Row row) {
            before.takeFrom(pages);
            kept = address;
            takeOut(address);
            int how;
            if (row.length > CELL_BYTES) {
                int next = layPieces(row);
                cell.assemble(next, row, 0, PART_BYTES);
                how = next != NONE && layKept(HEAD) ? 2 : NONE;
            } else {
                cell.assemble(NONE, row, 0, row.length);
                how = layKept(RECORD) ? 0 : layMoved();
            }
            kept = NONE;
            if (how == NONE) {
                pages.takeFrom(before);
            }
            return how;
        }

        private int layMoved() {
            int moved = layOn(pageFor(cell.length, setting.lawInForce()), MOVED);
            cell.link(moved);
            return moved != NONE && layKept(STUB) ? 1 : NONE;
        }

        /** Lays the pieces of a long record, the last one first: the address of the first one, or NONE. */
        private int layPieces(Row row) {
            int next = LAST;
            for (int i = (row.length - 1) / PART_BYTES; i > 0 && next != NONE; i--) {
                cell.assemble(next, row, i * PART_BYTES, (i + 1) * PART_BYTES);
                next = layOn(pageFor(cell.length, setting.lawInForce()), PIECE);
            }
            return next;
        }

        /** Lays the cell on a page that SEARCH told: its address; NONE if there was none. */
        private int layOn(int page, int kind) {
            int slot = isPage(page) ? pages.openSlot(page, kept) : NONE;
            if (slot == NONE) {
                return NONE;
            }
            int address = page * PER_PAGE + slot;
            lay(address, kind);
            return address;
        }

        /** Lays the cell in the slot that is kept, if its page has the room. */
        private boolean layKept(int kind) {
            if (!isAddress(kept) || pages.freeOf(kept / PER_PAGE) < cell.length) {
                return false;
            }
            lay(kept, kind);
            return true;
        }

        private void lay(int address, int kind) {
            int page = address / PER_PAGE;
            int slots = Math.max(pages.lengths[page], address % PER_PAGE + 1);
            int more = SLOT_BYTES * (slots - pages.lengths[page]);
            if (pages.gapOf(page) < cell.length + more) {
                squeeze(page);
            }
            int begin = pages.lowestOf(page) - cell.length;
            pages.lengths[page] = slots;
            pages.write(address, kind, begin, cell);
            pages.promise(page);
        }

        /** All cells lie one below the other from the page's end, those of lower slots higher. */
        private void squeeze(int page) {
            int base = page * PAGE_BYTES;
            System.arraycopy(pages.bytes, base, spare, 0, PAGE_BYTES);
            int end = PAGE_BYTES;
            for (int slot = 0; slot < pages.lengths[page]; slot++) {
                int address = page * PER_PAGE + slot;
                if (pages.kinds[address] != EMPTY) {
                    int size = pages.sizes[address];
                    end -= size;
                    System.arraycopy(spare, pages.begins[address], pages.bytes, base + end, size);
                    pages.begins[address] = end;
                }
            }
        }

        private void packPage(int page) {
            before.takeFrom(pages);
            squeeze(page);
            pages.promise(page);
        }

        /** How many promises are others then. */
        private int mendAll() {
            before.takeFrom(pages);
            int others = 0;
            for (int page = 0; page < PAGES; page++) {
                pages.promise(page);
                if (pages.promises[page] != before.promises[page]) {
                    others++;
                }
            }
            return others;
        }

        private void takeAway(int address) {
            before.takeFrom(pages);
            takeOut(address);
        }

        /** All cells of a record leave. */
        private void takeOut(int address) {
            int at = address;
            for (int i = 0; i < ADDRESSES && at != NONE; i++) {
                int next = pages.followerOf(at);
                pages.clear(at, kept);
                at = next;
            }
        }

        /** Where SEARCH tells by a law (null: none) that so many bytes come; NONE if nowhere. */
        private int pageFor(int size, Text law) {
            for (int page = 0; page < PAGES; page++) {
                boolean open = pages.promises[page] >= (size + LEVEL + 1) / LEVEL && pages.openSlot(page, kept) != NONE;
                if (open && pages.freeOf(page) - size - SLOT_BYTES >= leftOn(page, size, law)) {
                    return page;
                }
            }
            return NONE;
        }

        /** How many bytes a page leaves by a law; more than it has, if it is barred. */
        private int leftOn(int page, int size, Text law) {
            if (law == null) {
                return 0;
            }
            machine.words[0] = page;
            machine.words[1] = size;
            machine.words[2] = pages.freeOf(page);
            machine.words[3] = pages.lengths[page];
            machine.words[4] = pages.promises[page];
            machine.words[5] = setting.values[TIME];
            machine.words[6] = setting.values[MOOD];
            long left = 0;
            for (int clause = 0; clause < law.clauses; clause++) {
                if (machine.answer(law, clause, TEST) == 1) {
                    if (law.marks[clause * MARKS + KIND] == BARS) {
                        return PAGE_BYTES + 1;
                    }
                    long sum = machine.answer(law, clause, FIRST);
                    left = sum == BROKEN ? left : Math.max(0, Math.min(PAGE_BYTES, sum));
                }
            }
            return (int) left;
        }
    }

    /** The latest changes and the pages ahead of each. */
    private static final class Log {
        private final int[] kinds = new int[UNDOABLE];
        private final Pages[] rows = new Pages[UNDOABLE];
        private int length = 0;

        private void push(int kind, Pages before) {
            if (length >= UNDOABLE) {
                forgetOldest();
            }
            if (rows[length] == null) {
                rows[length] = new Pages();
            }
            rows[length].takeFrom(before);
            kinds[length] = kind;
            length++;
        }

        /** The oldest one's pages move to the end, to be used again. */
        private void forgetOldest() {
            Pages oldest = rows[0];
            for (int i = 1; i < UNDOABLE; i++) {
                rows[i - 1] = rows[i];
                kinds[i - 1] = kinds[i];
            }
            rows[UNDOABLE - 1] = oldest;
            length = UNDOABLE - 1;
        }

        private void addAll(Log other) {
            for (int i = 0; i < other.length; i++) {
                push(other.kinds[i], other.rows[i]);
            }
        }

        /** Takes the latest change back: its kind. */
        private int pull(Pages pages) {
            if (length <= 0 || rows[length - 1] == null) {
                return NONE;
            }
            length--;
            pages.takeFrom(rows[length]);
            return kinds[length];
        }
    }

    /** Runs the clauses of orders; what they changed can be undone one by one only when all were run. */
    private static final class Runner {
        private final Desk desk;
        private final Machine machine;
        private final Row row;
        private final Log fresh = new Log();
        private final Pages start = new Pages();
        private int done = 0;
        private int latest = NONE;

        private Runner(Desk desk, Machine machine, Row row) {
            this.desk = desk;
            this.machine = machine;
            this.row = row;
        }

        private void begin() {
            start.takeFrom(desk.pages);
            fresh.length = 0;
            done = 0;
            latest = NONE;
        }

        private void takeBack() {
            desk.pages.takeFrom(start);
        }

        /** Runs a clause once, if its test is so; whether it could be. */
        private boolean carryOut(Text text, int clause) {
            fillWords();
            if (machine.answer(text, clause, TEST) != 1) {
                return true;
            }
            int kind = text.marks[clause * MARKS + KIND];
            long first = machine.answer(text, clause, FIRST);
            long second = machine.answer(text, clause, SECOND);
            if (first == BROKEN || second == BROKEN || !canBe(kind, (int) first, (int) second)) {
                return false;
            }
            boolean could = true;
            switch (kind) {
                case PUT:
                    row.repeat((int) first, (int) second);
                    int address = desk.bring(row);
                    latest = address == NONE ? latest : address;
                    could = address != NONE;
                    break;
                case GROW:
                    row.repeat((int) second, GROWN_BYTE);
                    could = desk.writeAnew((int) first, row) != NONE;
                    break;
                case DROP:
                    desk.takeAway((int) first);
                    break;
                case PACK:
                    desk.packPage((int) first);
                    break;
                default:
                    desk.mendAll();
            }
            if (could) {
                fresh.push(kind, desk.before);
                done++;
            }
            return could;
        }

        /** Sums are far below where an int ends, so that none of them changes on the way here. */
        private boolean canBe(int kind, int first, int second) {
            switch (kind) {
                case PUT:
                    return first >= 0 && first <= RECORD_BYTES && second >= 0 && second <= BYTE_MOST;
                case GROW:
                    return desk.pages.isRecord(first) && second >= 0 && second <= RECORD_BYTES;
                case DROP:
                    return desk.pages.isRecord(first);
                case PACK:
                    return isPage(first);
                default:
                    return true;
            }
        }

        private void fillWords() {
            machine.words[0] = desk.setting.values[TIME];
            machine.words[1] = done;
            machine.words[2] = latest;
            machine.words[3] = desk.pages.recordCount();
            for (int page = 0; page < PAGES; page++) {
                machine.words[PAGE_WORDS + page] = desk.pages.freeOf(page);
                machine.words[PAGE_WORDS + PAGES + page] = desk.pages.promises[page];
            }
        }
    }

    /** Days by draws, on paper, and what the pages were behind the latest ones. */
    private static final class Calendar {
        private final Desk desk;
        private final Row row;
        private final int[] free = new int[PAGES];
        private final int[] promises = new int[PAGES];
        private final int[] cells = new int[PAGES];
        private boolean isKept = false;
        private int seed = 0;

        private Calendar(Desk desk, Row row) {
            this.desk = desk;
            this.row = row;
        }

        private void begin(int from) {
            seed = from;
        }

        private int draw(int m) {
            seed = (seed * DRAW_TIMES + DRAW_MORE) % DRAW_REST;
            return m > 0 ? seed % m : 0;
        }

        private void passDay() {
            int size = draw(70);
            int value = draw(256);
            int third = draw(ADDRESSES);
            int what = draw(8);
            int address = desk.pages.recordFrom(third);
            row.repeat(size, value);
            if (what <= 3) {
                desk.bring(row);
            } else if (what == 7) {
                desk.packPage(third / PER_PAGE);
            } else if (address != NONE && what == 6) {
                desk.takeAway(address);
            } else if (address != NONE) {
                desk.writeAnew(address, row);
            }
        }

        private void keep() {
            for (int page = 0; page < PAGES; page++) {
                free[page] = desk.pages.freeOf(page);
                promises[page] = desk.pages.promises[page];
                cells[page] = desk.pages.cellsOf(page);
            }
            isKept = true;
        }

        private int drawnOf(int page, int what) {
            if (!isKept) {
                return NONE;
            }
            switch (what) {
                case 0:
                    return free[page];
                case 1:
                    return promises[page];
                case 2:
                    return cells[page];
                default:
                    return NONE;
            }
        }
    }

    /** What an image keeps. */
    private static final class Image {
        private final Pages pages = new Pages();
        private final Setting setting = new Setting();
    }
}
