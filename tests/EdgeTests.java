import java.util.Random;

/** No call may throw, for any numbers in any state, and what stands on the pages must hold together. */
public final class EdgeTests {
    private static final int[] ODD = {Integer.MIN_VALUE, Integer.MIN_VALUE + 1, -129, -128, -17, -16, -3, -2, -1, 0, 1, 2, 3, 7, 8, 11, 12, 15, 16,
        20, 21, 38, 39, 40, 41, 60, 61, 63, 64, 99, 100, 127, 128, 199, 200, 201, 255, 256, 380, 381, 400, 401, 999, 1000, 1000000, 1000001,
        Integer.MAX_VALUE - 1, Integer.MAX_VALUE};

    private static final int CALLS = 512;
    private static final int SLOTS_SEEN = 60;
    private static final int AMISS_CALLS = 300;

    private static RecordHeap x;
    private static Random r;
    private static int[] kinds;

    private static int odd() {
        int way = r.nextInt(4);
        return way == 0 ? r.nextInt() : way == 1 ? r.nextInt(130) : ODD[r.nextInt(ODD.length)];
    }

    private static long anyCall(Texts texts) {
        int a = odd();
        int b = odd();
        int c = odd();
        switch (r.nextInt(44)) {
            case 0: return x.terms(a, b);
            case 1: return x.feed(a, b, c, r.nextInt(), odd());
            case 2: return x.end(a);
            case 3: return x.law();
            case 4: return x.orders();
            case 5: return x.fault();
            case 6: return x.stopped();
            case 7: return x.force(a);
            case 8: case 9: return x.put();
            case 10: return x.rewrite(a);
            case 11: return x.drop(a);
            case 12: return x.pack(a);
            case 13: return x.mend();
            case 14: return x.undo();
            case 15: return x.view(a);
            case 16: return x.sign(a);
            case 17: return x.page(a, b);
            case 18: return x.slot(a, b, c);
            case 19: return x.map(a);
            case 20: return x.search(a);
            case 21: return x.scan(a);
            case 22: return x.above(a);
            case 23: return x.pieces(a, b);
            case 24: return x.sorted(a);
            case 25: return x.find();
            case 26: return x.fit(a);
            case 27: return x.worst(a);
            case 28: return x.few(a, b);
            case 29: return x.compare(a, b);
            case 30: return x.days(a, b);
            case 31: return x.drawn(a, b);
            case 32: return x.image(a);
            case 33: return x.back(a);
            case 34: return x.count(a);
            case 35: return x.status();
            case 36: return x.slot(r.nextInt(8), r.nextInt(12), r.nextInt(45));
            case 37: return x.rewrite(x.scan(r.nextInt(20)));
            case 38: return x.force(r.nextInt(3) - 1);
            case 39: case 40:
                x.end(0);
                Tape.feed(x, texts.text(true));
                return x.orders();
            case 41:
                x.end(0);
                Tape.feed(x, texts.text(false));
                return x.law();
            case 42:
                Tape.feed(x, Tape.row(r.nextInt(60), r.nextInt(256)));
                return x.put();
            default: {
                int[] bytes = new int[r.nextInt(60)];
                String signs = "0123456789 ;;()[]+-*/%<>=aftimendleavsbrwhosuy\u0000\u00ffA";
                for (int i = 0; i < bytes.length; i++) {
                    bytes[i] = signs.charAt(r.nextInt(signs.length()));
                }
                Tape.feed(x, bytes);
                return r.nextBoolean() ? x.law() : x.orders();
            }
        }
    }

    private static String amissOn(int p, int slots) {
        int free = 64 - 2 * slots;
        int lowest = 64;
        boolean[] taken = new boolean[64];
        for (int s = 0; s < slots; s++) {
            int kind = x.slot(p, s, 0);
            kinds[kind]++;
            if (kind == 0) {
                continue;
            }
            int begin = x.slot(p, s, 1);
            int size = x.slot(p, s, 2);
            if (size < 0 || size > 40 || begin < 2 * slots || begin + size > 64 || kind == 2 && size != 2 || kind > 3 && size < 2) {
                return "cell " + p + " " + s;
            }
            for (int i = begin; i < begin + size; i++) {
                if (taken[i]) {
                    return "cells over one another on page " + p;
                }
                taken[i] = true;
            }
            free -= size;
            lowest = Math.min(lowest, begin);
        }
        if (slots > 12 || slots > 0 && x.slot(p, slots - 1, 0) == 0) {
            return "directory of page " + p;
        }
        if (free != x.page(p, 2) || free < 0 || lowest - 2 * slots != x.page(p, 3)) {
            return "free, gap of page " + p;
        }
        int promise = x.page(p, 5);
        return promise > free / 8 || promise < 0 ? "page " + p + " promises too much" : "";
    }

    /** What is amiss with what stands; where more slots are taken than can be asked for in the calls that are left, it is not told. */
    private static String amiss() {
        kinds = new int[6];
        int[] slots = new int[8];
        int all = 0;
        for (int p = 0; p < 8; p++) {
            slots[p] = x.page(p, 0);
            all += slots[p];
        }
        if (all > SLOTS_SEEN) {
            return "";
        }
        for (int p = 0; p < 8; p++) {
            String of = amissOn(p, slots[p]);
            if (!of.isEmpty()) {
                return of;
            }
        }
        int records = kinds[1] + kinds[2] + kinds[4];
        int cells = records + kinds[3] + kinds[5];
        int chained = 0;
        int bytes = 0;
        int a = -1;
        boolean few = records <= 20;
        for (int i = 0; i < records && few; i++) {
            a = x.above(a);
            chained += x.pieces(a, 0);
            bytes += x.view(a);
        }
        if (kinds[2] != kinds[3] || records != x.count(0) || x.scan(records) != -1 || few && (cells != chained || bytes != x.count(1))) {
            return "records and their cells";
        }
        boolean fine = x.count(2) == kinds[2] && x.count(3) == kinds[5];
        return !fine || x.count(4) > 6 || x.count(5) > 16 || x.count(6) > 400 || x.count(12) >= x.count(4) ? "counts" : "";
    }

    /** Some calls, then what stands is looked at within the 512 calls of an object, then more calls, that may not throw either. */
    private static String run(int seed) {
        r = new Random(seed);
        x = new RecordHeap();
        Texts texts = new Texts(r);
        int most = r.nextInt(CALLS - AMISS_CALLS);
        Tape.calls = 0;
        try {
            for (int i = 0; 2 * i + Tape.calls < most; i++) {
                anyCall(texts);
            }
            String amiss = amiss();
            for (int i = 0; i < CALLS; i++) {
                anyCall(texts);
            }
            return amiss;
        } catch (Throwable e) {
            e.printStackTrace(System.out);
            return "thrown: " + e;
        }
    }

    public static void main(String[] args) {
        int runs = args.length > 0 ? Integer.parseInt(args[0]) : 6000;
        String amiss = "";
        for (int seed = 0; seed < runs && amiss.isEmpty(); seed++) {
            amiss = run(seed);
            if (!amiss.isEmpty()) {
                System.out.println("  run " + seed + ": " + amiss);
            }
        }
        System.out.println((amiss.isEmpty() ? "ok: " : "FAILED: ") + "no call throws, pages hold together");
        if (!amiss.isEmpty()) {
            System.exit(1);
        }
    }
}
