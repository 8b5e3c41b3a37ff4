import java.util.ArrayList;
import java.util.Arrays;
import java.util.HashSet;
import java.util.List;
import java.util.Set;
import java.util.TreeMap;

/** The document once more, written apart from the class and in another form: slow, with objects and exceptions. */
final class Model {
    static final class Cell {
        int kind;
        int begin;
        int[] bytes;

        Cell(int kind, int begin, int[] bytes) {
            this.kind = kind;
            this.begin = begin;
            this.bytes = bytes;
        }
    }

    static final class Page {
        ArrayList<Cell> slots = new ArrayList<>();
        int promise = 8;

        Page copy() {
            Page other = new Page();
            other.promise = promise;
            for (Cell c : slots) {
                other.slots.add(c == null ? null : new Cell(c.kind, c.begin, c.bytes));
            }
            return other;
        }

        int free() {
            int sum = 64 - 2 * slots.size();
            for (Cell c : slots) {
                sum -= c == null ? 0 : c.bytes.length;
            }
            return sum;
        }

        int lowest() {
            return slots.stream().filter(c -> c != null && c.kind > 0).mapToInt(c -> c.begin).min().orElse(64);
        }

        int gap() {
            return lowest() - 2 * slots.size();
        }

        int cells() {
            return (int) slots.stream().filter(c -> c != null && c.kind > 0).count();
        }

        void pack() {
            int end = 64;
            for (Cell c : slots) {
                if (c != null && c.kind > 0) {
                    end -= c.bytes.length;
                    c.begin = end;
                }
            }
            promise = free() / 8;
        }

        void trim() {
            while (!slots.isEmpty() && slots.get(slots.size() - 1) == null) {
                slots.remove(slots.size() - 1);
            }
        }
    }

    static final class Broken extends Exception { }

    static final class Fault extends Exception {
        final int place;

        Fault(int place) {
            this.place = place;
        }
    }

    static final class NoRoom extends Exception { }

    interface Env {
        long word(String name, int page);
    }

    interface Sum {
        long of(Env env) throws Broken;
    }

    interface Test {
        boolean of(Env env) throws Broken;
    }

    static final class Clause {
        String kind;
        Sum first;
        Sum second;
        int times = 1;
        Test test;
    }

    /** What stands on the pages with the law that is in force there. */
    final class World {
        Page[] pages = new Page[8];

        World() {
            for (int i = 0; i < 8; i++) {
                pages[i] = new Page();
            }
        }

        World copy() {
            World other = new World();
            for (int i = 0; i < 8; i++) {
                other.pages[i] = pages[i].copy();
            }
            return other;
        }

        void become(World other) {
            pages = other.copy().pages;
        }

        Cell cell(int address) {
            if (address < 0 || address > 127 || address % 16 >= pages[address / 16].slots.size()) {
                return null;
            }
            return pages[address / 16].slots.get(address % 16);
        }

        boolean record(int address) {
            Cell c = cell(address);
            return c != null && (c.kind == 1 || c.kind == 2 || c.kind == 4);
        }

        /** The addresses of all its cells. */
        List<Integer> chain(int address) {
            ArrayList<Integer> row = new ArrayList<>();
            int at = address;
            while (true) {
                row.add(at);
                Cell c = cell(at);
                if (c.kind == 1 || c.kind == 3 || c.bytes[0] == 255) {
                    return row;
                }
                at = c.bytes[1];
            }
        }

        int[] view(int address) {
            ArrayList<Integer> all = new ArrayList<>();
            for (int at : chain(address)) {
                Cell c = cell(at);
                for (int i = c.kind == 1 || c.kind == 3 ? 0 : 2; i < c.bytes.length; i++) {
                    all.add(c.bytes[i]);
                }
            }
            return all.stream().mapToInt(i -> i).toArray();
        }

        TreeMap<Integer, int[]> records() {
            TreeMap<Integer, int[]> all = new TreeMap<>();
            for (int a = 0; a < 128; a++) {
                if (record(a)) {
                    all.put(a, view(a));
                }
            }
            return all;
        }

        int search(int m, List<Clause> law) {
            for (int p = 0; p < 8; p++) {
                Page page = pages[p];
                if (page.promise < (m + 9) / 8) {
                    continue;
                }
                if (!page.slots.contains(null) && page.slots.size() >= 12) {
                    continue;
                }
                int number = p;
                Env env = (name, of) -> switch (name) {
                    case "page" -> number;
                    case "size" -> m;
                    case "free" -> page.free();
                    case "slots" -> page.slots.size();
                    case "promise" -> page.promise;
                    case "time" -> terms[0];
                    default -> terms[2];
                };
                long leaves = 0;
                boolean barred = false;
                for (Clause c : law) {
                    try {
                        if (c.test != null && !c.test.of(env)) {
                            continue;
                        }
                        if (c.kind.equals("bars")) {
                            barred = true;
                        } else {
                            leaves = Math.min(64, Math.max(0, c.first.of(env)));
                        }
                    } catch (Broken e) {
                        continue;
                    }
                }
                if (!barred && page.free() - m - 2 >= leaves) {
                    return p;
                }
            }
            return -1;
        }

        int place(int kind, int[] bytes) throws NoRoom {
            int p = search(bytes.length, force());
            if (p < 0) {
                throw new NoRoom();
            }
            Page page = pages[p];
            int slot = page.slots.indexOf(null);
            int need = bytes.length + (slot < 0 ? 2 : 0);
            if (page.gap() < need) {
                page.pack();
            }
            Cell c = new Cell(kind, page.lowest() - bytes.length, bytes);
            if (slot < 0) {
                slot = page.slots.size();
                page.slots.add(c);
            } else {
                page.slots.set(slot, c);
            }
            page.promise = page.free() / 8;
            return 16 * p + slot;
        }

        void placeOwn(int address, int kind, int[] bytes) throws NoRoom {
            Page page = pages[address / 16];
            if (page.free() < bytes.length) {
                throw new NoRoom();
            }
            if (page.gap() < bytes.length) {
                page.pack();
            }
            page.slots.set(address % 16, new Cell(kind, page.lowest() - bytes.length, bytes));
            page.promise = page.free() / 8;
        }

        int[] linked(int next, int[] bytes, int from, int to) {
            int[] all = new int[2 + to - from];
            all[0] = next < 0 ? 255 : 0;
            all[1] = next < 0 ? 255 : next;
            System.arraycopy(bytes, from, all, 2, to - from);
            return all;
        }

        int pieces(int[] bytes) throws NoRoom {
            ArrayList<int[]> ends = new ArrayList<>();
            for (int from = 38; from < bytes.length; from += 38) {
                ends.add(0, new int[] {from, Math.min(bytes.length, from + 38)});
            }
            int next = -1;
            for (int[] end : ends) {
                next = place(5, linked(next, bytes, end[0], end[1]));
            }
            return next;
        }

        int put(int[] bytes) throws NoRoom {
            World was = copy();
            try {
                if (bytes.length <= 40) {
                    return place(1, bytes);
                }
                return place(4, linked(pieces(bytes), bytes, 0, 38));
            } catch (NoRoom e) {
                become(was);
                throw e;
            }
        }

        int write(int address, int[] bytes) throws NoRoom {
            World was = copy();
            try {
                for (int at : chain(address)) {
                    pages[at / 16].slots.set(at % 16, at == address ? new Cell(0, 0, new int[0]) : null);
                }
                for (Page page : pages) {
                    page.trim();
                }
                if (bytes.length > 40) {
                    placeOwn(address, 4, linked(pieces(bytes), bytes, 0, 38));
                    return 2;
                }
                if (pages[address / 16].free() >= bytes.length) {
                    placeOwn(address, 1, bytes);
                    return 0;
                }
                int moved = place(3, bytes);
                placeOwn(address, 2, new int[] {0, moved});
                return 1;
            } catch (NoRoom e) {
                become(was);
                throw e;
            }
        }

        int drop(int address) {
            int size = view(address).length;
            for (int at : chain(address)) {
                pages[at / 16].slots.set(at % 16, null);
            }
            for (Page page : pages) {
                page.trim();
            }
            return size;
        }

        int mend() {
            int others = 0;
            for (Page page : pages) {
                others += page.promise != page.free() / 8 ? 1 : 0;
                page.promise = page.free() / 8;
            }
            return others;
        }
    }

    /** Reads one text. */
    static final class Reading {
        final String text;
        final boolean orders;
        final ArrayList<String> tokens = new ArrayList<>();
        final ArrayList<Integer> places = new ArrayList<>();
        int at = 0;
        int parts = 0;

        Reading(String text, boolean orders) {
            this.text = text;
            this.orders = orders;
            java.util.regex.Matcher m = java.util.regex.Pattern.compile("[a-z]+|[0-9]+|[^ ]", java.util.regex.Pattern.DOTALL).matcher(text);
            while (m.find()) {
                tokens.add(m.group());
                places.add(m.start());
            }
            tokens.add("");
            places.add(text.length());
        }

        String token() {
            return tokens.get(at);
        }

        boolean is(String what) {
            return token().equals(what);
        }

        Fault fault() {
            return new Fault(places.get(at));
        }

        void need(String what) throws Fault {
            if (!is(what)) {
                throw fault();
            }
            at++;
        }

        int number(int least, int most) throws Fault {
            if (!token().matches("[0-9]+")) {
                throw fault();
            }
            java.math.BigInteger value = new java.math.BigInteger(token());
            if (value.compareTo(java.math.BigInteger.valueOf(least)) < 0 || value.compareTo(java.math.BigInteger.valueOf(most)) > 0) {
                throw fault();
            }
            at++;
            return value.intValue();
        }

        List<Clause> all() throws Fault {
            ArrayList<Clause> clauses = new ArrayList<>();
            do {
                if (at > 0) {
                    at++;
                }
                if (clauses.size() == 12) {
                    throw fault();
                }
                clauses.add(clause());
            } while (is(";"));
            need("");
            return clauses;
        }

        Clause clause() throws Fault {
            Clause c = new Clause();
            c.kind = token();
            if (!(orders ? Set.of("put", "grow", "drop", "pack", "mend") : Set.of("leaves", "bars")).contains(c.kind)) {
                throw fault();
            }
            at++;
            if (!c.kind.equals("bars") && !c.kind.equals("mend")) {
                c.first = sum(0);
            }
            if (c.kind.equals("put")) {
                need("of");
                c.second = sum(0);
            }
            if (c.kind.equals("grow")) {
                need("to");
                c.second = sum(0);
            }
            if (orders && is("times")) {
                at++;
                c.times = number(1, 20);
            }
            if (is("if")) {
                at++;
                c.test = test(0);
            }
            return c;
        }

        Test test(int depth) throws Fault {
            Test left = both(depth);
            while (is("or")) {
                at++;
                Test a = left;
                Test b = both(depth);
                left = env -> a.of(env) || b.of(env);
            }
            return left;
        }

        Test both(int depth) throws Fault {
            Test left = plain(depth);
            while (is("and")) {
                at++;
                Test a = left;
                Test b = plain(depth);
                left = env -> a.of(env) && b.of(env);
            }
            return left;
        }

        Test plain(int depth) throws Fault {
            if (is("not")) {
                at++;
                Test inner = plain(depth);
                return env -> !inner.of(env);
            }
            if (is("(")) {
                if (depth == 8) {
                    throw fault();
                }
                at++;
                Test inner = test(depth + 1);
                need(")");
                return inner;
            }
            Sum a = sum(depth);
            String sign = token();
            if (!Set.of("<", ">", "=").contains(sign)) {
                throw fault();
            }
            at++;
            Sum b = sum(depth);
            return env -> {
                long left = a.of(env);
                long right = b.of(env);
                return sign.equals("<") ? left < right : sign.equals(">") ? left > right : left == right;
            };
        }

        static long checked(java.math.BigInteger value) throws Broken {
            if (value.abs().compareTo(java.math.BigInteger.valueOf(1000000000L)) > 0) {
                throw new Broken();
            }
            return value.longValue();
        }

        Sum sum(int depth) throws Fault {
            Sum left = term(depth);
            while (is("+") || is("-")) {
                boolean plus = is("+");
                at++;
                Sum a = left;
                Sum b = term(depth);
                left = env -> {
                    java.math.BigInteger x = java.math.BigInteger.valueOf(a.of(env));
                    java.math.BigInteger y = java.math.BigInteger.valueOf(b.of(env));
                    return checked(plus ? x.add(y) : x.subtract(y));
                };
            }
            return left;
        }

        Sum term(int depth) throws Fault {
            Sum left = part(depth);
            while (is("*") || is("/") || is("%")) {
                String sign = token();
                at++;
                Sum a = left;
                Sum b = part(depth);
                left = env -> {
                    java.math.BigInteger x = java.math.BigInteger.valueOf(a.of(env));
                    java.math.BigInteger y = java.math.BigInteger.valueOf(b.of(env));
                    if (sign.equals("*")) {
                        return checked(x.multiply(y));
                    }
                    if (y.signum() == 0) {
                        throw new Broken();
                    }
                    return checked(sign.equals("/") ? x.divide(y) : x.remainder(y));
                };
            }
            return left;
        }

        Sum part(int depth) throws Fault {
            if (is("[")) {
                if (depth == 8) {
                    throw fault();
                }
                at++;
                Sum inner = sum(depth + 1);
                need("]");
                return inner;
            }
            boolean digits = token().matches("[0-9]+");
            Set<String> words = orders ? Set.of("time", "done", "latest", "live", "free", "promise")
                : Set.of("page", "size", "free", "slots", "promise", "time", "mood");
            if (!digits && !words.contains(token()) || parts == 50) {
                throw fault();
            }
            parts++;
            if (digits) {
                int value = number(0, 1000);
                return env -> value;
            }
            String word = token();
            at++;
            int page = orders && (word.equals("free") || word.equals("promise")) ? number(0, 7) : 0;
            return env -> env.word(word, page);
        }
    }

    static final class Change {
        final int kind;
        final World before;

        Change(int kind, World before) {
            this.kind = kind;
            this.before = before;
        }
    }

    final class Kept {
        World world;
        int[] terms;
        List<List<Clause>> laws;
        int forced;
    }

    World live = new World();
    int[] terms = {0, 1, 0};
    ArrayList<List<Clause>> laws = new ArrayList<>();
    int forced = -1;
    ArrayList<Integer> tape = new ArrayList<>();
    int[] viewed = new int[0];
    ArrayList<Change> changes = new ArrayList<>();
    Kept[] images = new Kept[2];
    World drawn;
    int faultPlace = -1;
    int stoppedClause = -1;
    int latestStatus = 0;
    TreeMap<Integer, Integer> refusals = new TreeMap<>();

    List<Clause> force() {
        return forced < 0 ? List.of() : laws.get(forced);
    }

    private int refuse(int by) {
        refusals.merge(by, 1, Integer::sum);
        latestStatus = by;
        return by;
    }

    private int fine(int answer) {
        latestStatus = 0;
        return answer;
    }

    private int[] taken() {
        int[] all = tape.stream().mapToInt(i -> i).toArray();
        tape.clear();
        return all;
    }

    private void note(int kind, World before) {
        changes.add(new Change(kind, before));
        if (changes.size() > 16) {
            changes.remove(0);
        }
    }

    int terms(int what, int value) {
        int[] most = {999, 10, 9};
        if (what < 0 || what > 2 || value < 0 || value > most[what]) {
            return refuse(-1);
        }
        int was = terms[what];
        terms[what] = value;
        return fine(was);
    }

    int feed(int a, int b, int c, int d, int e) {
        if (tape.size() > 380) {
            return -1;
        }
        for (int v : new int[] {a, b, c, d, e}) {
            for (byte x : java.nio.ByteBuffer.allocate(4).putInt(v).array()) {
                tape.add(x & 255);
            }
        }
        return tape.size();
    }

    int end(int n) {
        if (n < 0 || n > tape.size()) {
            return -1;
        }
        while (tape.size() > n) {
            tape.remove(tape.size() - 1);
        }
        return n;
    }

    private List<Clause> read(int[] bytes, boolean orders) {
        StringBuilder s = new StringBuilder();
        for (int b : bytes) {
            s.append((char) b);
        }
        try {
            List<Clause> all = new Reading(s.toString(), orders).all();
            faultPlace = -1;
            return all;
        } catch (Fault e) {
            faultPlace = e.place;
            return null;
        }
    }

    int law() {
        int[] bytes = taken();
        if (laws.size() == 6) {
            return refuse(-5);
        }
        List<Clause> law = read(bytes, false);
        if (law == null) {
            return refuse(-6);
        }
        laws.add(law);
        return fine(laws.size() - 1);
    }

    int orders() {
        List<Clause> text = read(taken(), true);
        stoppedClause = -1;
        if (text == null) {
            return refuse(-6);
        }
        World start = live.copy();
        ArrayList<Change> changesThen = new ArrayList<>(changes);
        int[] doneAndLatest = {0, -1};
        Env env = (name, page) -> switch (name) {
            case "time" -> terms[0];
            case "done" -> doneAndLatest[0];
            case "latest" -> doneAndLatest[1];
            case "live" -> live.records().size();
            case "free" -> live.pages[page].free();
            default -> live.pages[page].promise;
        };
        for (int i = 0; i < text.size(); i++) {
            for (int t = 0; t < text.get(i).times; t++) {
                Clause c = text.get(i);
                try {
                    if (c.test != null && !c.test.of(env)) {
                        continue;
                    }
                } catch (Broken e) {
                    continue;
                }
                try {
                    one(c, env, doneAndLatest);
                } catch (Broken | NoRoom e) {
                    live = start;
                    changes = changesThen;
                    stoppedClause = i;
                    return refuse(-3);
                }
            }
        }
        return fine(doneAndLatest[0]);
    }

    private void one(Clause c, Env env, int[] doneAndLatest) throws Broken, NoRoom {
        long first = c.first == null ? 0 : c.first.of(env);
        long second = c.second == null ? 0 : c.second.of(env);
        World before = live.copy();
        int kind = List.of("put", "grow", "drop", "pack", "mend").indexOf(c.kind);
        if (kind == 0) {
            if (first < 0 || first > 200 || second < 0 || second > 255) {
                throw new Broken();
            }
            int[] bytes = new int[(int) first];
            Arrays.fill(bytes, (int) second);
            doneAndLatest[1] = live.put(bytes);
        } else if (kind == 1) {
            if (first < 0 || first > 127 || !live.record((int) first) || second < 0 || second > 200) {
                throw new Broken();
            }
            int[] bytes = new int[(int) second];
            Arrays.fill(bytes, 7);
            live.write((int) first, bytes);
        } else if (kind == 2) {
            if (first < 0 || first > 127 || !live.record((int) first)) {
                throw new Broken();
            }
            live.drop((int) first);
        } else if (kind == 3) {
            if (first < 0 || first > 7) {
                throw new Broken();
            }
            live.pages[(int) first].pack();
        } else {
            live.mend();
        }
        note(kind, before);
        doneAndLatest[0]++;
    }

    int fault() {
        return faultPlace;
    }

    int stopped() {
        return stoppedClause;
    }

    int force(int law) {
        if (law < -1 || law >= laws.size()) {
            return refuse(-2);
        }
        int was = forced;
        forced = law;
        return fine(was);
    }

    int put() {
        int[] bytes = taken();
        if (bytes.length > 200) {
            return refuse(-6);
        }
        World before = live.copy();
        try {
            int address = live.put(bytes);
            note(0, before);
            return fine(address);
        } catch (NoRoom e) {
            return refuse(-5);
        }
    }

    int rewrite(int address) {
        int[] bytes = taken();
        if (!live.record(address)) {
            return refuse(-2);
        }
        if (bytes.length > 200) {
            return refuse(-6);
        }
        World before = live.copy();
        try {
            int how = live.write(address, bytes);
            note(1, before);
            return fine(how);
        } catch (NoRoom e) {
            return refuse(-5);
        }
    }

    int drop(int address) {
        if (!live.record(address)) {
            return refuse(-2);
        }
        note(2, live.copy());
        return fine(live.drop(address));
    }

    int pack(int page) {
        if (page < 0 || page > 7) {
            return refuse(-1);
        }
        note(3, live.copy());
        int waste = live.pages[page].free() - live.pages[page].gap();
        live.pages[page].pack();
        return fine(waste);
    }

    int mend() {
        note(4, live.copy());
        return fine(live.mend());
    }

    int undo() {
        if (changes.isEmpty()) {
            return refuse(-3);
        }
        Change c = changes.remove(changes.size() - 1);
        live = c.before;
        return fine(c.kind);
    }

    int view(int address) {
        if (!live.record(address)) {
            return -1;
        }
        viewed = live.view(address);
        return viewed.length;
    }

    int sign(int i) {
        return i < 0 || i >= viewed.length ? -1 : viewed[i];
    }

    int page(int page, int what) {
        if (page < 0 || page > 7 || what < 0 || what > 5) {
            return -1;
        }
        Page p = live.pages[page];
        return new int[] {p.slots.size(), p.cells(), p.free(), p.gap(), p.free() - p.gap(), p.promise}[what];
    }

    int slot(int page, int slot, int what) {
        if (page < 0 || page > 7 || slot < 0 || slot >= live.pages[page].slots.size() || what < 0) {
            return -1;
        }
        Cell c = live.pages[page].slots.get(slot);
        if (c == null) {
            return what == 0 ? 0 : -1;
        }
        return what == 0 ? c.kind : what == 1 ? c.begin : what == 2 ? c.bytes.length
            : what - 3 < c.bytes.length ? c.bytes[what - 3] : -1;
    }

    int map(int node) {
        if (node < 1 || node > 15) {
            return -1;
        }
        return node >= 8 ? live.pages[node - 8].promise : Math.max(map(2 * node), map(2 * node + 1));
    }

    int search(int m) {
        return m < 0 || m > 40 ? -1 : live.search(m, force());
    }

    private static int ith(List<Integer> row, int i) {
        return i < 0 || i >= row.size() ? -1 : row.get(i);
    }

    int scan(int i) {
        return ith(new ArrayList<>(live.records().keySet()), i);
    }

    int above(int address) {
        Integer next = live.records().higherKey(address);
        return next == null ? -1 : next;
    }

    int pieces(int address, int what) {
        if (!live.record(address) || what < 0 || what > 1) {
            return -1;
        }
        List<Integer> chain = live.chain(address);
        HashSet<Integer> on = new HashSet<>();
        for (int at : chain) {
            on.add(at / 16);
        }
        return what == 0 ? chain.size() : on.size();
    }

    int sorted(int i) {
        TreeMap<Integer, int[]> all = live.records();
        ArrayList<Integer> row = new ArrayList<>(all.keySet());
        row.sort((a, b) -> Arrays.compare(all.get(a), all.get(b)));
        return ith(row, i);
    }

    int find() {
        int[] bytes = taken();
        for (var e : live.records().entrySet()) {
            if (Arrays.equals(e.getValue(), bytes)) {
                return e.getKey();
            }
        }
        return -1;
    }

    int fit(int n) {
        if (n < 0 || n > 200) {
            return -1;
        }
        World paper = live.copy();
        int came = 0;
        try {
            while (true) {
                paper.put(new int[n]);
                came++;
            }
        } catch (NoRoom e) {
            return came;
        }
    }

    int worst(int i) {
        ArrayList<Integer> row = new ArrayList<>(List.of(0, 1, 2, 3, 4, 5, 6, 7));
        row.sort((a, b) -> Integer.compare(page(b, 4), page(a, 4)));
        return ith(row, i);
    }

    long few(int k, int n) {
        if (k < 1 || k > 20 || n < 0 || n > 99) {
            return -1;
        }
        long[] now = new long[102];
        now[0] = 1000000000000L;
        for (int i = 0; i < n; i++) {
            long[] next = new long[102];
            for (int j = 0; j <= i; j++) {
                next[j] += now[j] * (10 - terms[1]) / 10;
                next[j + 1] += now[j] * terms[1] / 10;
            }
            now = next;
        }
        long sum = 0;
        for (int j = 0; j < k; j++) {
            sum += now[j];
        }
        return sum;
    }

    int compare(int law, int m) {
        if (law < -1 || law >= laws.size() || m < 0 || m > 40) {
            return -1;
        }
        return live.search(m, law < 0 ? List.of() : laws.get(law));
    }

    int days(int seed, int n) {
        if (seed < 0 || seed > 1000000 || n < 1 || n > 60) {
            return refuse(-1);
        }
        World paper = live.copy();
        long s = seed;
        for (int i = 0; i < n; i++) {
            int[] draws = new int[4];
            int[] of = {70, 256, 128, 8};
            for (int j = 0; j < 4; j++) {
                s = (s * 1103 + 12345) % 1000003;
                draws[j] = (int) (s % of[j]);
            }
            int[] bytes = new int[draws[0]];
            Arrays.fill(bytes, draws[1]);
            Integer address = paper.records().ceilingKey(draws[2]);
            try {
                if (draws[3] < 4) {
                    paper.put(bytes);
                } else if (draws[3] == 7) {
                    paper.pages[draws[2] / 16].pack();
                } else if (address != null && draws[3] == 6) {
                    paper.drop(address);
                } else if (address != null) {
                    paper.write(address, bytes);
                }
            } catch (NoRoom e) {
                continue;
            }
        }
        drawn = paper;
        return fine(paper.records().size());
    }

    int drawn(int page, int what) {
        if (drawn == null || page < 0 || page > 7 || what < 0 || what > 2) {
            return -1;
        }
        Page p = drawn.pages[page];
        return what == 0 ? p.free() : what == 1 ? p.promise : p.cells();
    }

    int image(int k) {
        if (k < 0 || k > 1) {
            return refuse(-1);
        }
        Kept kept = new Kept();
        kept.world = live.copy();
        kept.terms = terms.clone();
        kept.laws = new ArrayList<>(laws);
        kept.forced = forced;
        images[k] = kept;
        return fine(0);
    }

    int back(int k) {
        if (k < 0 || k > 1) {
            return refuse(-1);
        }
        if (images[k] == null) {
            return refuse(-2);
        }
        live = images[k].world.copy();
        terms = images[k].terms.clone();
        laws = new ArrayList<>(images[k].laws);
        forced = images[k].forced;
        changes.clear();
        return fine(0);
    }

    int count(int what) {
        int[] kinds = new int[6];
        for (int a = 0; a < 128; a++) {
            if (live.cell(a) != null) {
                kinds[live.cell(a).kind]++;
            }
        }
        switch (what) {
            case 0: return live.records().size();
            case 1: return live.records().values().stream().mapToInt(b -> b.length).sum();
            case 2: return kinds[2];
            case 3: return kinds[5];
            case 4: return laws.size();
            case 5: return changes.size();
            case 6: return tape.size();
            case 7: case 8: case 9: return refusals.getOrDefault(6 - what, 0);
            case 10: case 11: return refusals.getOrDefault(5 - what, 0);
            case 12: return forced;
            case 13: case 14: case 15: return terms[what - 13];
            default: return -1;
        }
    }

    int status() {
        return latestStatus;
    }
}
