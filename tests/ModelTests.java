import java.util.Random;

/** Random runs: the class and the model must answer alike, and must be alike behind each call. */
public final class ModelTests {
    private static int wrong = 0;
    private static RecordHeap heap;
    private static Model model;
    private static StringBuilder told;

    private static void alike(String call, long got, long want) {
        told.append(call).append(" = ").append(got).append('\n');
        if (got != want) {
            wrong++;
            if (wrong < 4) {
                System.out.println(told + "the model answers " + want);
            }
        }
    }

    private static void feed(int[] bytes) {
        for (int from = 0; from < bytes.length; from += 20) {
            int[] n = new int[5];
            for (int i = 0; i < 20; i++) {
                n[i / 4] = n[i / 4] << 8 | (from + i < bytes.length ? bytes[from + i] : 32);
            }
            alike("feed", heap.feed(n[0], n[1], n[2], n[3], n[4]), model.feed(n[0], n[1], n[2], n[3], n[4]));
        }
        alike("end(" + bytes.length + ")", heap.end(bytes.length), model.end(bytes.length));
    }

    private static void standsAlike() {
        for (int p = -1; p <= 8; p++) {
            for (int w = -1; w <= 6; w++) {
                alike("page(" + p + ", " + w + ")", heap.page(p, w), model.page(p, w));
            }
            for (int s = 0; s < heap.page(p, 0) + 1; s++) {
                for (int w = 0; w < 3 + Math.max(0, heap.slot(p, s, 2)) + 1; w++) {
                    alike("slot(" + p + ", " + s + ", " + w + ")", heap.slot(p, s, w), model.slot(p, s, w));
                }
            }
            for (int w = -1; w <= 3; w++) {
                alike("drawn(" + p + ", " + w + ")", heap.drawn(p, w), model.drawn(p, w));
            }
        }
        for (int w = -1; w <= 16; w++) {
            alike("count(" + w + ")", heap.count(w), model.count(w));
        }
        alike("status()", heap.status(), model.status());
        alike("fault()", heap.fault(), model.fault());
        alike("stopped()", heap.stopped(), model.stopped());
        for (int i = -1; i < 16; i++) {
            alike("map(" + i + ")", heap.map(i), model.map(i));
        }
    }

    private static void asksAlike(Random r) {
        for (int m = -1; m <= 41; m++) {
            alike("search(" + m + ")", heap.search(m), model.search(m));
            int law = r.nextInt(8) - 1;
            alike("compare(" + law + ", " + m + ")", heap.compare(law, m), model.compare(law, m));
        }
        int records = heap.count(0);
        for (int i = -1; i <= records; i++) {
            alike("scan(" + i + ")", heap.scan(i), model.scan(i));
            alike("sorted(" + i + ")", heap.sorted(i), model.sorted(i));
            int a = heap.scan(i);
            alike("above(" + a + ")", heap.above(a), model.above(a));
            alike("pieces(" + a + ", 0)", heap.pieces(a, 0), model.pieces(a, 0));
            alike("pieces(" + a + ", 1)", heap.pieces(a, 1), model.pieces(a, 1));
            alike("view(" + a + ")", heap.view(a), model.view(a));
            for (int k = -1; k < heap.view(a) + 1; k++) {
                alike("sign(" + k + ")", heap.sign(k), model.sign(k));
            }
        }
        for (int i = -1; i <= 8; i++) {
            alike("worst(" + i + ")", heap.worst(i), model.worst(i));
        }
        int n = r.nextInt(203) - 1;
        alike("fit(" + n + ")", heap.fit(n), model.fit(n));
        int k = r.nextInt(22);
        int of = r.nextInt(102) - 1;
        alike("few(" + k + ", " + of + ")", heap.few(k, of), model.few(k, of));
    }

    private static int address(Random r) {
        if (r.nextInt(12) == 0) {
            return r.nextInt(140) - 5;
        }
        int records = heap.count(0);
        return records == 0 ? r.nextInt(20) : heap.scan(r.nextInt(records));
    }

    private static int[] record(Random r) {
        int way = r.nextInt(20);
        int most = way == 0 ? 230 : way < 4 ? 201 : way < 8 ? 80 : way < 15 ? 41 : 8;
        int[] bytes = new int[r.nextInt(most)];
        int of = r.nextInt(3) == 0 ? 256 : 2;
        for (int i = 0; i < bytes.length; i++) {
            bytes[i] = r.nextInt(of);
        }
        return bytes;
    }

    private static void call(Random r, Texts texts) {
        int way = r.nextInt(100);
        if (way < 34) {
            feed(record(r));
            alike("put()", heap.put(), model.put());
        } else if (way < 52) {
            int a = address(r);
            feed(record(r));
            alike("rewrite(" + a + ")", heap.rewrite(a), model.rewrite(a));
        } else if (way < 58) {
            int a = address(r);
            alike("drop(" + a + ")", heap.drop(a), model.drop(a));
        } else if (way < 61) {
            int p = r.nextInt(10) - 1;
            alike("pack(" + p + ")", heap.pack(p), model.pack(p));
        } else if (way < 65) {
            alike("mend()", heap.mend(), model.mend());
        } else if (way < 69) {
            alike("undo()", heap.undo(), model.undo());
        } else if (way < 77) {
            String text = texts.text(true);
            feed(Tape.bytes(text));
            alike("orders() " + text, heap.orders(), model.orders());
        } else if (way < 84) {
            String text = texts.text(false);
            feed(Tape.bytes(text));
            alike("law() " + text, heap.law(), model.law());
        } else if (way < 88) {
            int law = r.nextInt(8) - 2;
            alike("force(" + law + ")", heap.force(law), model.force(law));
        } else if (way < 91) {
            int what = r.nextInt(5) - 1;
            int value = r.nextInt(r.nextInt(3) == 0 ? 1100 : 12) - 1;
            alike("terms(" + what + ", " + value + ")", heap.terms(what, value), model.terms(what, value));
        } else if (way < 93) {
            int seed = r.nextInt(1000010) - 2;
            int n = r.nextInt(63);
            alike("days(" + seed + ", " + n + ")", heap.days(seed, n), model.days(seed, n));
        } else if (way < 95) {
            int k = r.nextInt(4) - 1;
            alike("image(" + k + ")", heap.image(k), model.image(k));
        } else if (way < 97) {
            int k = r.nextInt(4) - 1;
            alike("back(" + k + ")", heap.back(k), model.back(k));
        } else {
            int records = heap.count(0);
            int[] bytes = record(r);
            int a = records == 0 ? -1 : heap.scan(r.nextInt(records));
            alike("view(" + a + ")", heap.view(a), model.view(a));
            if (a >= 0 && r.nextBoolean()) {
                bytes = new int[heap.view(a)];
                for (int i = 0; i < bytes.length; i++) {
                    bytes[i] = heap.sign(i);
                }
            }
            feed(bytes);
            alike("find()", heap.find(), model.find());
        }
    }

    private static void runs(int runs) {
        for (int run = 0; run < runs && wrong == 0; run++) {
            Random r = new Random(run);
            Texts texts = new Texts(r);
            heap = new RecordHeap();
            model = new Model();
            told = new StringBuilder("run " + run + "\n");
            for (int i = 0; i < 120 && wrong == 0; i++) {
                call(r, texts);
                int mark = told.length();
                standsAlike();
                if (i % 8 == 0) {
                    asksAlike(r);
                }
                if (wrong == 0) {
                    told.setLength(mark);
                }
            }
        }
    }

    private static void texts(int runs) {
        for (int run = 0; run < runs && wrong == 0; run++) {
            Random r = new Random(1000000 + run);
            Texts texts = new Texts(r);
            heap = new RecordHeap();
            model = new Model();
            told = new StringBuilder("texts " + run + "\n");
            for (int i = 0; i < 100 && wrong == 0; i++) {
                boolean ofOrders = r.nextBoolean();
                String text = texts.bent(ofOrders);
                feed(Tape.bytes(text));
                if (ofOrders) {
                    alike("orders() " + text, heap.orders(), model.orders());
                } else {
                    alike("law() " + text, heap.law(), model.law());
                    int law = heap.count(4) - 1;
                    for (int m = 0; m <= 40; m++) {
                        alike("compare(" + law + ", " + m + ")", heap.compare(law, m), model.compare(law, m));
                    }
                    if (law == 5) {
                        alike("back(0)", heap.back(0), model.back(0));
                    }
                }
                alike("fault()", heap.fault(), model.fault());
                alike("stopped()", heap.stopped(), model.stopped());
                if (i % 20 == 0) {
                    alike("image(0)", heap.image(0), model.image(0));
                    standsAlike();
                }
            }
        }
    }

    private static void close(String name) {
        System.out.println((wrong == 0 ? "ok: " : "FAILED: ") + name);
        if (wrong != 0) {
            System.exit(1);
        }
    }

    public static void main(String[] args) {
        int runs = args.length > 0 ? Integer.parseInt(args[0]) : 300;
        runs(runs);
        close("the class answers as the model does");
        texts(runs);
        close("the class reads texts as the model does");
    }
}
