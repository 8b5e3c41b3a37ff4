import java.util.Arrays;

/** A heap to try calls on, short ways to make them, and the cases that were tried. */
abstract class Bench {
    static final int MIN = Integer.MIN_VALUE;
    static final int MAX = Integer.MAX_VALUE;
    static final Check check = new Check();
    static RecordHeap x;

    static void due(String call, long got, long want) {
        check.due(call, got, want);
    }

    static void fresh() {
        x = new RecordHeap();
    }

    static int put(int n, int value) {
        Tape.feed(x, Tape.row(n, value));
        return x.put();
    }

    static int put(String text) {
        Tape.feed(x, text);
        return x.put();
    }

    static int rewrite(int address, int n, int value) {
        Tape.feed(x, Tape.row(n, value));
        return x.rewrite(address);
    }

    static int law(String text) {
        Tape.feed(x, text);
        return x.law();
    }

    static int orders(String text) {
        Tape.feed(x, text);
        return x.orders();
    }

    static int find(String text) {
        Tape.feed(x, text);
        return x.find();
    }

    static int find(int n, int value) {
        Tape.feed(x, Tape.row(n, value));
        return x.find();
    }

    static void faultOfLaw(String text, int place) {
        due("law " + text, law(text), -6);
        due("fault of " + text, x.fault(), place);
    }

    static void faultOfOrders(String text, int place) {
        due("orders " + text, orders(text), -6);
        due("fault of " + text, x.fault(), place);
        due("stopped of " + text, x.stopped(), -1);
    }

    /** A law that is in force then. */
    static void rule(String text) {
        due("law " + text, law(text) >= 0 ? 0 : -1, 0);
        x.force(x.count(4) - 1);
    }

    static String many(String part, String between, int n) {
        StringBuilder s = new StringBuilder();
        for (int i = 0; i < n; i++) {
            s.append(i > 0 ? between : "").append(part);
        }
        return s.toString();
    }

    /**
     * What stands in the heap: pages, promises, cells with their first and last byte, laws, terms, what can be undone;
     * not its tape, what was refused, and how the latest calls went. Few calls, as an object answers 512 of them.
     */
    static String stand() {
        StringBuilder s = new StringBuilder();
        for (int p = 0; p < 8; p++) {
            int slots = x.page(p, 0);
            s.append(slots).append(' ').append(x.page(p, 3)).append(' ').append(x.page(p, 5));
            for (int i = 0; i < slots; i++) {
                int size = x.slot(p, i, 2);
                s.append(" |").append(x.slot(p, i, 0)).append(' ').append(x.slot(p, i, 1)).append(' ').append(size);
                if (size > 0) {
                    s.append(' ').append(x.slot(p, i, 3)).append(' ').append(x.slot(p, i, 2 + size));
                }
            }
            s.append('\n');
        }
        for (int w : new int[] {4, 5, 12, 13, 14, 15}) {
            s.append(' ').append(x.count(w));
        }
        return s.toString();
    }

    static void same(String what, String was) {
        check.holds(what + ": all is as it was", was.equals(stand()));
    }

    /** Each of some wrong numbers must be answered so. */
    static void allDue(String call, java.util.function.IntUnaryOperator of, int want, int... numbers) {
        for (int n : numbers) {
            due(call + "(" + n + ")", of.applyAsInt(n), want);
        }
    }

    /** A row of bytes, no two next to one another alike. */
    static int[] mixed(int n) {
        int[] all = new int[n];
        Arrays.setAll(all, i -> i * 7 + 3 & 255);
        return all;
    }

    static void seen(String what, int address, int[] bytes) {
        due(what + ": view", x.view(address), bytes.length);
        for (int i = 0; i < bytes.length; i++) {
            due(what + ": sign " + i, x.sign(i), bytes[i]);
        }
        due(what + ": sign behind", x.sign(bytes.length), -1);
    }

    static void run(String name, Runnable test) {
        check.begin(name);
        fresh();
        test.run();
        check.end();
    }
}
