import java.util.Random;

/** Random runs of at most 512 calls: the class and the model must answer alike. */
public final class ModelTests {
    private static final int CALLS = 512;
    private static final int MOST_OF_ONE = 32;
    private static final int STAND = 200;

    private static int wrong = 0;
    private static int calls = 0;
    private static RecordHeap heap;
    private static Model model;
    private static StringBuilder told;

    /** Whether so many calls are left: what later ones answer is free. */
    private static boolean left(int n) {
        return calls + n <= CALLS;
    }

    private static void alike(String call, long got, long want) {
        calls++;
        told.append(call).append(" = ").append(got).append('\n');
        if (got != want) {
            wrong++;
            if (wrong < 4) {
                System.out.println(told + "the model answers " + want);
            }
        }
    }

    private static void feed(int[] bytes) {
        for (int from = 0; from < bytes.length; from += 20) {
            int[] n = new int[5];
            for (int i = 0; i < 20; i++) {
                n[i / 4] = n[i / 4] << 8 | (from + i < bytes.length ? bytes[from + i] : 32);
            }
            alike("feed", heap.feed(n[0], n[1], n[2], n[3], n[4]), model.feed(n[0], n[1], n[2], n[3], n[4]));
        }
        alike("end(" + bytes.length + ")", heap.end(bytes.length), model.end(bytes.length));
    }

    /** One of the asks, of what may be there or not. */
    private static void askAlike(Random r) {
        int p = r.nextInt(10) - 1;
        int w = r.nextInt(8) - 1;
        int a = address(r);
        int i = r.nextInt(model.count(0) + 2) - 1;
        int m = r.nextInt(43) - 1;
        int law = r.nextInt(8) - 1;
        switch (r.nextInt(22)) {
            case 0: alike("page(" + p + ", " + w + ")", heap.page(p, w), model.page(p, w)); break;
            case 1: case 2: slotAlike(r, r.nextInt(8)); break;
            case 3: alike("drawn(" + p + ", " + w + ")", heap.drawn(p, w), model.drawn(p, w)); break;
            case 4: countAlike(r.nextInt(18) - 1); break;
            case 5: alike("status()", heap.status(), model.status()); break;
            case 6: alike("fault()", heap.fault(), model.fault()); break;
            case 7: alike("stopped()", heap.stopped(), model.stopped()); break;
            case 8: alike("map(" + m + ")", heap.map(m), model.map(m)); break;
            case 9: case 10: alike("search(" + m + ")", heap.search(m), model.search(m)); break;
            case 11: alike("compare(" + law + ", " + m + ")", heap.compare(law, m), model.compare(law, m)); break;
            case 12: alike("scan(" + i + ")", heap.scan(i), model.scan(i)); break;
            case 13: case 14: alike("sorted(" + i + ")", heap.sorted(i), model.sorted(i)); break;
            case 15: alike("above(" + a + ")", heap.above(a), model.above(a)); break;
            case 16: alike("pieces(" + a + ", " + w + ")", heap.pieces(a, w), model.pieces(a, w)); break;
            case 17: alike("view(" + a + ")", heap.view(a), model.view(a)); break;
            case 18: signAlike(r.nextInt(model.viewed.length + 2) - 1); break;
            case 19: alike("worst(" + p + ")", heap.worst(p), model.worst(p)); break;
            case 20: {
                int n = r.nextInt(203) - 1;
                alike("fit(" + n + ")", heap.fit(n), model.fit(n));
                break;
            }
            default: {
                int k = r.nextInt(22);
                int of = r.nextInt(102) - 1;
                alike("few(" + k + ", " + of + ")", heap.few(k, of), model.few(k, of));
            }
        }
    }

    private static void countAlike(int w) {
        alike("count(" + w + ")", heap.count(w), model.count(w));
    }

    private static void signAlike(int k) {
        alike("sign(" + k + ")", heap.sign(k), model.sign(k));
    }

    private static void slotAlike(Random r, int p) {
        int s = r.nextInt(model.page(p, 0) + 1);
        int w = r.nextInt(3 + Math.max(0, model.slot(p, s, 2)) + 1);
        alike("slot(" + p + ", " + s + ", " + w + ")", heap.slot(p, s, w), model.slot(p, s, w));
    }

    /** All that stands, as far as calls are left. */
    private static void standsAlike(Random r) {
        for (int w = 0; w < 16; w++) {
            countAlike(w);
        }
        for (int p = 0; p < 8; p++) {
            for (int w = 0; w < 6; w++) {
                alike("page(" + p + ", " + w + ")", heap.page(p, w), model.page(p, w));
            }
        }
        for (int p = 0; p < 8; p++) {
            for (int s = 0; s < model.page(p, 0) && left(3); s++) {
                for (int w = 0; w < 3; w++) {
                    alike("slot(" + p + ", " + s + ", " + w + ")", heap.slot(p, s, w), model.slot(p, s, w));
                }
            }
        }
        for (int i = 0; i < model.count(0) && left(4); i++) {
            int a = model.scan(i);
            alike("view(" + a + ")", heap.view(a), model.view(a));
            for (int k = 0; k < 3; k++) {
                signAlike(r.nextInt(model.viewed.length + 1));
            }
        }
        while (left(1)) {
            askAlike(r);
        }
    }

    private static int address(Random r) {
        if (r.nextInt(12) == 0) {
            return r.nextInt(140) - 5;
        }
        int records = model.count(0);
        return records == 0 ? r.nextInt(20) : model.scan(r.nextInt(records));
    }

    private static int[] record(Random r) {
        int way = r.nextInt(20);
        int most = way == 0 ? 230 : way < 4 ? 201 : way < 8 ? 80 : way < 15 ? 41 : 8;
        int[] bytes = new int[r.nextInt(most)];
        int of = r.nextInt(3) == 0 ? 256 : 2;
        for (int i = 0; i < bytes.length; i++) {
            bytes[i] = r.nextInt(of);
        }
        return bytes;
    }

    private static void call(Random r, Texts texts) {
        int way = r.nextInt(100);
        if (way < 34) {
            feed(record(r));
            alike("put()", heap.put(), model.put());
        } else if (way < 52) {
            int a = address(r);
            feed(record(r));
            alike("rewrite(" + a + ")", heap.rewrite(a), model.rewrite(a));
        } else if (way < 58) {
            int a = address(r);
            alike("drop(" + a + ")", heap.drop(a), model.drop(a));
        } else if (way < 61) {
            int p = r.nextInt(10) - 1;
            alike("pack(" + p + ")", heap.pack(p), model.pack(p));
        } else if (way < 65) {
            alike("mend()", heap.mend(), model.mend());
        } else if (way < 69) {
            alike("undo()", heap.undo(), model.undo());
        } else if (way < 77) {
            String text = texts.text(true);
            feed(Tape.bytes(text));
            alike("orders() " + text, heap.orders(), model.orders());
        } else if (way < 84) {
            String text = texts.text(false);
            feed(Tape.bytes(text));
            alike("law() " + text, heap.law(), model.law());
        } else if (way < 88) {
            int law = r.nextInt(8) - 2;
            alike("force(" + law + ")", heap.force(law), model.force(law));
        } else if (way < 91) {
            int what = r.nextInt(5) - 1;
            int value = r.nextInt(r.nextInt(3) == 0 ? 1100 : 12) - 1;
            alike("terms(" + what + ", " + value + ")", heap.terms(what, value), model.terms(what, value));
        } else if (way < 93) {
            int seed = r.nextInt(1000010) - 2;
            int n = r.nextInt(63);
            alike("days(" + seed + ", " + n + ")", heap.days(seed, n), model.days(seed, n));
        } else if (way < 95) {
            int k = r.nextInt(4) - 1;
            alike("image(" + k + ")", heap.image(k), model.image(k));
        } else if (way < 97) {
            int k = r.nextInt(4) - 1;
            alike("back(" + k + ")", heap.back(k), model.back(k));
        } else {
            int[] bytes = record(r);
            int a = address(r);
            alike("view(" + a + ")", heap.view(a), model.view(a));
            feed(r.nextInt(3) == 0 ? bytes : model.viewed);
            alike("find()", heap.find(), model.find());
        }
    }

    private static void begin(int seed) {
        heap = new RecordHeap();
        model = new Model();
        calls = 0;
        told = new StringBuilder("run " + seed + "\n");
    }

    private static void runs(int runs) {
        for (int run = 0; run < runs && wrong == 0; run++) {
            Random r = new Random(run);
            Texts texts = new Texts(r);
            begin(run);
            while (left(STAND + MOST_OF_ONE) && wrong == 0) {
                call(r, texts);
                for (int i = r.nextInt(4); i > 0; i--) {
                    askAlike(r);
                }
            }
            standsAlike(r);
        }
    }

    private static void texts(int runs) {
        for (int run = 0; run < runs && wrong == 0; run++) {
            Random r = new Random(1000000 + run);
            Texts texts = new Texts(r);
            begin(1000000 + run);
            alike("image(0)", heap.image(0), model.image(0));
            while (left(STAND / 2 + 2 * MOST_OF_ONE) && wrong == 0) {
                oneText(r, texts);
            }
            standsAlike(r);
        }
    }

    private static void oneText(Random r, Texts texts) {
        boolean ofOrders = r.nextBoolean();
        String text = texts.bent(ofOrders);
        feed(Tape.bytes(text));
        if (ofOrders) {
            alike("orders() " + text, heap.orders(), model.orders());
        } else {
            alike("law() " + text, heap.law(), model.law());
            int law = model.count(4) - 1;
            for (int i = 0; i < 5; i++) {
                int m = r.nextInt(41);
                alike("compare(" + law + ", " + m + ")", heap.compare(law, m), model.compare(law, m));
            }
            if (law == 5) {
                alike("back(0)", heap.back(0), model.back(0));
            }
        }
        alike("fault()", heap.fault(), model.fault());
        alike("stopped()", heap.stopped(), model.stopped());
        if (r.nextInt(20) == 0) {
            alike("image(0)", heap.image(0), model.image(0));
        }
    }

    private static void close(String name) {
        System.out.println((wrong == 0 ? "ok: " : "FAILED: ") + name);
        if (wrong != 0) {
            System.exit(1);
        }
    }

    public static void main(String[] args) {
        int runs = args.length > 0 ? Integer.parseInt(args[0]) : 3000;
        runs(runs);
        close("the class answers as the model does");
        texts(runs);
        close("the class reads texts as the model does");
    }
}
