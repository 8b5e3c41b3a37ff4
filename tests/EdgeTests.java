import java.util.Random;

/** No call may throw, for any numbers in any state, and what stands on the pages must hold together. */
public final class EdgeTests {
    private static final int[] ODD = {Integer.MIN_VALUE, Integer.MIN_VALUE + 1, -129, -128, -17, -16, -3, -2, -1, 0, 1, 2, 3, 7, 8, 11, 12, 15, 16,
        20, 21, 38, 39, 40, 41, 60, 61, 63, 64, 99, 100, 127, 128, 199, 200, 201, 255, 256, 380, 381, 400, 401, 999, 1000, 1000000, 1000001,
        Integer.MAX_VALUE - 1, Integer.MAX_VALUE};

    private static RecordHeap x;
    private static Random r;

    private static int odd() {
        int way = r.nextInt(4);
        return way == 0 ? r.nextInt() : way == 1 ? r.nextInt(130) : ODD[r.nextInt(ODD.length)];
    }

    private static long anyCall(Texts texts) {
        int a = odd();
        int b = odd();
        int c = odd();
        switch (r.nextInt(44)) {
            case 0: return x.terms(a, b);
            case 1: return x.feed(a, b, c, r.nextInt(), odd());
            case 2: return x.end(a);
            case 3: return x.law();
            case 4: return x.orders();
            case 5: return x.fault();
            case 6: return x.stopped();
            case 7: return x.force(a);
            case 8: case 9: return x.put();
            case 10: return x.rewrite(a);
            case 11: return x.drop(a);
            case 12: return x.pack(a);
            case 13: return x.mend();
            case 14: return x.undo();
            case 15: return x.view(a);
            case 16: return x.sign(a);
            case 17: return x.page(a, b);
            case 18: return x.slot(a, b, c);
            case 19: return x.map(a);
            case 20: return x.search(a);
            case 21: return x.scan(a);
            case 22: return x.above(a);
            case 23: return x.pieces(a, b);
            case 24: return x.sorted(a);
            case 25: return x.find();
            case 26: return x.fit(a);
            case 27: return x.worst(a);
            case 28: return x.few(a, b);
            case 29: return x.compare(a, b);
            case 30: return x.days(a, b);
            case 31: return x.drawn(a, b);
            case 32: return x.image(a);
            case 33: return x.back(a);
            case 34: return x.count(a);
            case 35: return x.status();
            case 36: return x.slot(r.nextInt(8), r.nextInt(12), r.nextInt(45));
            case 37: return x.rewrite(x.scan(r.nextInt(20)));
            case 38: return x.force(r.nextInt(3) - 1);
            case 39: case 40:
                x.end(0);
                Tape.feed(x, texts.text(true));
                return x.orders();
            case 41:
                x.end(0);
                Tape.feed(x, texts.text(false));
                return x.law();
            case 42:
                Tape.feed(x, Tape.row(r.nextInt(60), r.nextInt(256)));
                return x.put();
            default: {
                int[] bytes = new int[r.nextInt(60)];
                String signs = "0123456789 ;;()[]+-*/%<>=aftimendleavsbrwhosuy\u0000\u00ffA";
                for (int i = 0; i < bytes.length; i++) {
                    bytes[i] = signs.charAt(r.nextInt(signs.length()));
                }
                Tape.feed(x, bytes);
                return r.nextBoolean() ? x.law() : x.orders();
            }
        }
    }

    private static String amiss() {
        int records = 0;
        int cells = 0;
        for (int p = 0; p < 8; p++) {
            int slots = x.page(p, 0);
            int free = 64 - 2 * slots;
            int lowest = 64;
            boolean[] taken = new boolean[64];
            for (int s = 0; s < slots; s++) {
                int kind = x.slot(p, s, 0);
                int size = Math.max(0, x.slot(p, s, 2));
                int begin = x.slot(p, s, 1);
                if (kind == 0) {
                    continue;
                }
                cells++;
                records += kind == 1 || kind == 2 || kind == 4 ? 1 : 0;
                if (size > 40 || begin < 2 * slots || begin + size > 64 || kind > 5 || kind == 2 && size != 2 || kind > 3 && size < 2) {
                    return "cell " + p + " " + s;
                }
                for (int i = begin; i < begin + size; i++) {
                    if (taken[i]) {
                        return "cells over one another on page " + p;
                    }
                    taken[i] = true;
                }
                free -= size;
                lowest = Math.min(lowest, begin);
            }
            if (slots > 12 || slots > 0 && x.slot(p, slots - 1, 0) == 0) {
                return "directory of page " + p;
            }
            if (free != x.page(p, 2) || free < 0 || lowest - 2 * slots != x.page(p, 3) || x.page(p, 4) < 0) {
                return "free, gap, waste of page " + p;
            }
            if (x.page(p, 5) > free / 8 || x.page(p, 5) < 0) {
                return "page " + p + " promises too much";
            }
        }
        int chained = 0;
        int bytes = 0;
        for (int i = 0; i < records; i++) {
            int a = x.scan(i);
            chained += x.pieces(a, 0);
            bytes += x.view(a);
        }
        if (records != x.count(0) || cells != chained || bytes != x.count(1) || x.scan(records) != -1) {
            return "records and their cells";
        }
        return x.count(4) > 6 || x.count(5) > 16 || x.count(6) > 400 || x.count(12) >= x.count(4) ? "counts" : "";
    }

    public static void main(String[] args) {
        int runs = args.length > 0 ? Integer.parseInt(args[0]) : 1500;
        String amiss = "";
        for (int run = 0; run < runs && amiss.isEmpty(); run++) {
            r = new Random(run);
            x = new RecordHeap();
            Texts texts = new Texts(r);
            try {
                for (int i = 0; i < 512 && amiss.isEmpty(); i++) {
                    anyCall(texts);
                    if (i % 3 == 0) {
                        amiss = amiss();
                    }
                }
            } catch (Throwable e) {
                e.printStackTrace(System.out);
                amiss = "thrown: " + e;
            }
            if (!amiss.isEmpty()) {
                System.out.println("  run " + run + ": " + amiss);
            }
        }
        System.out.println((amiss.isEmpty() ? "ok: " : "FAILED: ") + "no call throws, pages hold together");
        if (!amiss.isEmpty()) {
            System.exit(1);
        }
    }
}
