/** One case for each sentence of promises 1 to 36, and of term IV, that names a bound or a refused call. */
public final class CallBoundTests extends Bench {
    /** Refused so, told by status() and counted; all stands as it was. */
    private static void refusedBy(String call, java.util.function.IntSupplier of, int by) {
        int at = by >= -3 ? 6 - by : 5 - by;
        int count = x.count(at);
        String was = stand();
        due(call, of.getAsInt(), by);
        due(call + ": status", x.status(), by);
        due(call + ": count(" + at + ")", x.count(at), count + 1);
        same(call, was);
    }

    private static void bare() {
        int[] all = {0, 0, 64, 64, 0, 8};
        for (int p = 0; p < 8; p++) {
            for (int w = 0; w < 6; w++) {
                due("page(" + p + ", " + w + ")", x.page(p, w), all[w]);
            }
        }
        int[] counts = {0, 0, 0, 0, 0, 0, 0, 0, 0, 0, 0, 0, -1, 0, 1, 0};
        for (int w = 0; w < 16; w++) {
            due("count(" + w + ")", x.count(w), counts[w]);
        }
        due("scan", x.scan(0), -1);
        due("sorted", x.sorted(0), -1);
        due("above", x.above(MIN), -1);
        due("find", x.find(), -1);
        due("sign", x.sign(0), -1);
        due("drawn", x.drawn(0, 0), -1);
        due("fault", x.fault(), -1);
        due("stopped", x.stopped(), -1);
        due("status", x.status(), 0);
        RecordHeap other = x;
        put(3, 1);
        rule("bars");
        fresh();
        due("another object has none of it", x.count(0) + x.count(4), 0);
        due("it has it", other.count(0) + other.count(4), 2);
    }

    private static void termsBounds() {
        int[] least = {0, 0, 0};
        int[] most = {999, 10, 9};
        int[] first = {0, 1, 0};
        for (int w = 0; w < 3; w++) {
            fresh();
            int what = w;
            due("at first", x.count(13 + w), first[w]);
            due("the most", x.terms(w, most[w]), first[w]);
            due("the least", x.terms(w, least[w]), most[w]);
            for (int value : new int[] {-1, most[w] + 1, MIN, MAX}) {
                refusedBy("terms(" + w + ", " + value + ")", () -> x.terms(what, value), -1);
            }
            due("the most again", x.terms(w, most[w]), 0);
        }
        fresh();
        for (int what : new int[] {-1, 3, MIN, MAX}) {
            refusedBy("terms(" + what + ", 0)", () -> x.terms(what, 0), -1);
        }
    }

    private static void termsLeaveUndo() {
        put(1, 1);
        x.terms(0, 3);
        due("it leaves what can be undone", x.count(5), 1);
        due("undo", x.undo(), 0);
        due("undo leaves it", x.count(13), 3);
    }

    private static void feedBytes() {
        x.feed(0x00010203, 0x7f808182, 0xfcfdfeff, MIN, MAX);
        int[] want = {0, 1, 2, 3, 0x7f, 0x80, 0x81, 0x82, 0xfc, 0xfd, 0xfe, 0xff, 0x80, 0, 0, 0, 0x7f, 0xff, 0xff, 0xff};
        due("put", x.put(), 0);
        seen("the highest first", 0, want);
    }

    private static void feedFull() {
        for (int i = 1; i < 20; i++) {
            due("feed", x.feed(i, i, i, i, i), 20 * i);
        }
        due("380 and 20", x.feed(0, 0, 0, 0, 0), 400);
        due("400 and 20", x.feed(0, 0, 0, 0, 0), -1);
        due("none came", x.count(6), 400);
        due("end", x.end(381), 381);
        due("381 and 20", x.feed(0, 0, 0, 0, 0), -1);
        due("none came", x.count(6), 381);
        due("end", x.end(380), 380);
        due("380 and 20", x.feed(0, 0, 0, 0, 0), 400);
        due("that is not REFUSED", x.status(), 0);
    }

    private static void endBounds() {
        due("of an empty one: 0", x.end(0), 0);
        due("of an empty one: 1", x.end(1), -1);
        x.feed(0x61626364, 0, 0, 0, 0);
        allDue("end", n -> x.end(n), -1, -1, 21, 400, 401, MIN, MAX);
        due("it has them yet", x.count(6), 20);
        due("all", x.end(20), 20);
        due("one less", x.end(19), 19);
        due("no longer", x.end(20), -1);
        due("two", x.end(2), 2);
        due("behind them", x.feed(0x65666768, 0, 0, 0, 0), 22);
        x.end(3);
        due("found", put("abe") == 0 ? x.view(0) : -9, 6);
        due("its first n alone", x.sign(2), 'e');
        due("that is not REFUSED", x.count(7) + x.count(9), 0);
    }

    private static void lawNumbers() {
        put(1, 1);
        for (int i = 0; i < 6; i++) {
            due("law", law("bars if page=" + i), i);
            due("the tape is empty then", x.count(6), 0);
        }
        due("it leaves what can be undone", x.count(5), 1);
        faultOfOrders("mend mend", 5);
        refusedBy("the seventh", () -> law("bars"), -5);
        due("the tape is empty then, too", x.count(6), 0);
        refusedBy("the seventh, ahead of reading it", () -> law("bars; bars; x"), -5);
        due("the latest that read a text", x.fault(), 5);
    }

    private static void lawTexts() {
        refusedBy("none", () -> law(""), -6);
        due("fault at the end", x.fault(), 0);
        refusedBy("blanks alone", () -> law("   "), -6);
        due("fault at the end", x.fault(), 3);
        due("the tape is empty then", x.count(6), 0);
        refusedBy("orders", () -> law("mend"), -6);
        due("no law came", law("bars"), 0);
    }

    private static void ordersTexts() {
        refusedBy("none", () -> orders(""), -6);
        due("fault at the end", x.fault(), 0);
        refusedBy("blanks alone", () -> orders("    "), -6);
        due("fault at the end", x.fault(), 4);
        due("the tape is empty then", x.count(6), 0);
        refusedBy("a law", () -> orders("bars"), -6);
        refusedBy("the last clause can't be read: none is run", () -> orders("put 1 of 1; drop"), -6);
        refusedBy("one can't be", () -> orders("put 1 of 1; drop 1"), -3);
        due("the tape is empty then", x.count(6), 0);
        due("none was run", orders("mend if 1 = 2"), 0);
        due("status", x.status(), 0);
        due("the tape is empty then", x.count(6), 0);
        due("12 times 20", orders(many("mend times 20", ";", 12)), 240);
    }

    private static void faultBounds() {
        due("ahead of any", x.fault(), -1);
        faultOfLaw("bars 1", 5);
        put(1, 1);
        x.force(7);
        x.image(0);
        x.back(0);
        due("others leave it", x.fault(), 5);
        due("a law", law("bars"), 0);
        due("none without", x.fault(), -1);
        faultOfOrders("mend; 1", 6);
        due("orders that can't be could be read", orders("drop 77"), -3);
        due("none without", x.fault(), -1);
        faultOfLaw("", 0);
        due("orders", orders("mend"), 1);
        due("none without", x.fault(), -1);
    }

    private static void stoppedBounds() {
        due("ahead of any", x.stopped(), -1);
        due("orders", orders("drop 9; mend"), -3);
        due("the first", x.stopped(), 0);
        due("orders", orders(many("mend", ";", 11) + "; drop 9"), -3);
        due("the twelfth", x.stopped(), 11);
        law("x");
        x.drop(9);
        x.undo();
        due("others leave it", x.stopped(), 11);
        due("orders", orders("mend;"), -6);
        due("REFUSED by -6", x.stopped(), -1);
        due("orders", orders("mend; drop 9 times 3"), -3);
        due("the second", x.stopped(), 1);
        due("orders", orders("mend"), 1);
        due("done", x.stopped(), -1);
    }

    private static void forceBounds() {
        due("none is fine without laws", x.force(-1), -1);
        for (int law : new int[] {0, 1, 5, 6, -2, MIN, MAX}) {
            refusedBy("force(" + law + ")", () -> x.force(law), -2);
        }
        fresh();
        for (int i = 0; i < 6; i++) {
            law("bars");
        }
        put(1, 1);
        due("the last one", x.force(5), -1);
        refusedBy("force(6)", () -> x.force(6), -2);
        due("the first one", x.force(0), 5);
        due("the same one", x.force(0), 0);
        due("none", x.force(-1), 0);
        due("it leaves what can be undone", x.count(5), 1);
    }

    private static void putBounds() {
        due("none, too", x.put(), 0);
        due("the tape is empty then", put(3, 1) + x.count(6), 1);
        refusedBy("201", () -> put(201, 1), -6);
        due("the tape is empty then", x.count(6), 0);
        refusedBy("400", () -> put(400, 1), -6);
        fresh();
        rule("bars");
        refusedBy("none", () -> put(0, 1), -5);
        refusedBy("40", () -> put(40, 1), -5);
        due("the tape is empty then", x.count(6), 0);
        refusedBy("41", () -> put(41, 1), -5);
        refusedBy("200", () -> put(200, 1), -5);
        refusedBy("201, asked ahead of -5", () -> put(201, 1), -6);
        x.force(-1);
        due("200", put(200, 1), 64);
        due("status", x.status(), 0);
    }

    private static void rewriteBounds() {
        for (int a : new int[] {0, -1, 127, 128, MIN, MAX}) {
            refusedBy("no record " + a, () -> rewrite(a, 1, 1), -2);
            due("the tape is empty, REFUSED, too", x.count(6), 0);
        }
        fresh();
        refusedBy("-2 is ahead of -6", () -> rewrite(0, 201, 1), -2);
        put(20, 1);
        put(36, 2);
        refusedBy("201", () -> rewrite(0, 201, 1), -6);
        due("the tape is empty, REFUSED, too", x.count(6), 0);
        due("0: whole", rewrite(0, 24, 3), 0);
        due("the tape is empty", x.count(6), 0);
        due("1: one hop away", rewrite(0, 25, 3), 1);
        refusedBy("the moved one's", () -> rewrite(16, 1, 1), -2);
        x.drop(1);
        due("2: long", rewrite(0, 41, 3), 2);
        int piece = x.slot(0, 0, 4);
        refusedBy("a piece's", () -> rewrite(piece, 1, 1), -2);
        fresh();
        put(20, 1);
        rule("bars");
        refusedBy("no room", () -> rewrite(0, 100, 1), -5);
        due("the tape is empty, REFUSED, too", x.count(6), 0);
        refusedBy("201, asked ahead of -5", () -> rewrite(0, 201, 1), -6);
        due("0: nothing", rewrite(0, 0, 1), 0);
    }

    private static void dropBounds() {
        for (int n : new int[] {0, 1, 40, 41, 200}) {
            int a = put(n, 1);
            due("how many it had", x.drop(a), n);
            due("none is left", x.count(0), 0);
            x.mend();
        }
        for (int[] some : new int[][] {{-1, 127, 128, MIN, MAX}, {2, 15, 16, 17}}) {
            fresh();
            put(20, 1);
            put(36, 2);
            rewrite(0, 30, 3);
            for (int a : some) {
                refusedBy("drop(" + a + ")", () -> x.drop(a), -2);
            }
        }
        due("by the stub", x.drop(0), 30);
        refusedBy("dropped before", () -> x.drop(0), -2);
    }

    private static void packBounds() {
        for (int p : new int[] {-1, 8, MIN, MAX}) {
            refusedBy("pack(" + p + ")", () -> x.pack(p), -1);
        }
        due("bare", x.pack(0), 0);
        due("bare", x.pack(7), 0);
        put(40, 1);
        put(14, 1);
        x.drop(0);
        due("what WASTE was", x.pack(0), 40);
        due("none is left", x.page(0, 4), 0);
        due("none is left", x.pack(0), 0);
    }

    private static void mendBounds() {
        due("none", x.mend(), 0);
        for (int i = 0; i < 3; i++) {
            put(40, 1);
        }
        x.drop(0);
        x.drop(32);
        due("two are others", x.mend(), 2);
        due("none", x.mend(), 0);
        x.put();
        x.drop(0);
        due("one is another one", x.mend(), 1);
    }

    private static void undoKept() {
        refusedBy("none", () -> x.undo(), -3);
        for (int i = 0; i < 15; i++) {
            x.put();
        }
        due("15", x.count(5), 15);
        x.put();
        due("16", x.count(5), 16);
        x.put();
        due("16 are kept", x.count(5), 16);
        for (int i = 16; i > 0; i--) {
            due("undo", x.undo(), 0);
            due("records", x.count(0), i);
        }
        refusedBy("none", () -> x.undo(), -3);
        due("one stays", x.count(0), 1);
    }

    private static void undoKinds() {
        String[] was = new String[6];
        was[0] = stand();
        put(60, 1);
        was[1] = stand();
        int a = x.scan(0);
        rewrite(a, 7, 2);
        was[2] = stand();
        x.mend();
        was[3] = stand();
        x.pack(a / 16);
        was[4] = stand();
        x.drop(a);
        int[] kinds = {2, 3, 4, 1, 0};
        for (int i = 0; i < 5; i++) {
            due("undo", x.undo(), kinds[i]);
            same("undo of " + kinds[i], was[4 - i]);
        }
    }

    private static final String[] CHANGES = {"put 20 of 1", "put 36 of 2", "grow 0 to 30", "drop 1", "pack 0", "mend", "put 60 of 3", "drop 0",
        "pack 1", "mend"};
    private static final int[] KINDS = {0, 0, 1, 2, 3, 4, 0, 2, 3, 4};

    private static void change(int i) {
        switch (i) {
            case 0: put(20, 1); break;
            case 1: put(36, 2); break;
            case 2: rewrite(0, 30, 7); break;
            case 3: x.drop(1); break;
            case 4: x.pack(0); break;
            case 5: x.mend(); break;
            case 6: put(60, 3); break;
            case 7: x.drop(0); break;
            case 8: x.pack(1); break;
            default: x.mend();
        }
    }

    /** How all stands ahead of each of the changes, and behind the last one. */
    private static String[] standing() {
        String[] was = new String[11];
        for (int i = 0; i < 10; i++) {
            was[i] = stand();
            change(i);
        }
        was[10] = stand();
        fresh();
        return was;
    }

    private static void allUndone(String[] was) {
        for (int i = 9; i >= 0; i--) {
            due("undo of " + CHANGES[i], x.undo(), KINDS[i]);
            same("undo of " + CHANGES[i], was[i]);
        }
        due("no more", x.undo(), -3);
    }

    private static void undoEach() {
        String[] was = standing();
        for (int i = 0; i < 10; i++) {
            change(i);
        }
        allUndone(was);
    }

    private static void undoOrders() {
        String[] was = standing();
        due("orders", orders(String.join(";", CHANGES)), 10);
        same("by orders", was[10]);
        allUndone(was);
    }

    /** On the last page, its first and its last byte, too. */
    private static void undoBytes() {
        rule("bars if page < time");
        for (int p = 0; p < 8; p += 7) {
            x.terms(0, p);
            int[] bytes = mixed(40);
            Tape.feed(x, bytes);
            int a = 16 * p;
            due("put", x.put(), a);
            x.image(0);
            due("rewrite", rewrite(a, 40, 9), 0);
            seen("other bytes", a, Tape.row(40, 9));
            due("undo", x.undo(), 1);
            seen("undone", a, bytes);
            due("rewrite", rewrite(a, 40, 9), 0);
            due("back", x.back(0), 0);
            seen("back", a, bytes);
            due("orders", orders("grow " + a + " to 40; grow " + a + " to 39; drop 99"), -3);
            seen("all is as it was", a, bytes);
            due("its bytes end the page", x.slot(p, 0, 1), 24);
        }
    }

    private static void undoOldest() {
        int[] kinds = new int[20];
        for (int i = 0; i < 20; i++) {
            kinds[i] = i % 5 == 1 ? 3 : i % 5 == 3 ? 4 : 0;
            if (kinds[i] == 3) {
                x.pack(0);
            } else if (kinds[i] == 4) {
                x.mend();
            } else {
                x.put();
            }
        }
        due("16 are kept", x.count(5), 16);
        for (int i = 19; i > 3; i--) {
            due("undo of change " + i, x.undo(), kinds[i]);
        }
        refusedBy("none", () -> x.undo(), -3);
        due("those of the first four stay", x.count(0), 2);
    }

    private static void undoLeft() {
        put(1, 1);
        for (int call = 0; call < 12; call++) {
            switch (call) {
                case 0: put(201, 1); break;
                case 1: rewrite(9, 1, 1); break;
                case 2: x.drop(9); break;
                case 3: x.pack(9); break;
                case 4: orders("mend; drop 9"); break;
                case 5: x.fit(3); break;
                case 6: x.days(5, 60); break;
                case 7: x.image(0); break;
                case 8: x.back(1); break;
                case 9: x.back(-1); break;
                case 10: law("bars"); break;
                default: orders("mend if 1 = 2");
            }
            due("call " + call + " leaves it", x.count(5), 1);
        }
        due("undo", x.undo(), 0);
        put(1, 1);
        x.back(0);
        refusedBy("nothing behind back()", () -> x.undo(), -3);
    }

    private static void viewBounds() {
        put(0, 0);
        put(40, 1);
        due("none", x.view(0), 0);
        due("40", x.view(1), 40);
        due("200", x.view(put(200, 2)), 200);
        allDue("view", a -> x.view(a), -1, 2, 15, 16, 127, 128, -1, MIN, MAX);
        x.drop(0);
        due("dropped", x.view(0), -1);
        due("that is not REFUSED", x.status(), 0);
    }

    private static void signBounds() {
        due("ahead of any", x.sign(0), -1);
        put("ab");
        put(1, 255);
        x.put();
        x.view(1);
        due("255", x.sign(0), 255);
        x.view(0);
        due("first", x.sign(0), 'a');
        due("last", x.sign(1), 'b');
        allDue("sign", i -> x.sign(i), -1, 2, -1, 200, MIN, MAX);
        due("one that can't be", x.view(9), -1);
        due("the latest that could be", x.sign(1), 'b');
        rewrite(0, 2, 'z');
        due("as it was seen", x.sign(0), 'a');
        due("one of nothing", x.view(2), 0);
        due("nothing", x.sign(0), -1);
    }

    private static void pageBounds() {
        put(10, 1);
        put(5, 2);
        put(0, 0);
        x.drop(0);
        int[] want = {3, 2, 53, 43, 10, 5};
        for (int w = 0; w < 6; w++) {
            int what = w;
            due("page(0, " + w + ")", x.page(0, w), want[w]);
            allDue("page(.., " + w + ")", p -> x.page(p, what), -1, -1, 8, MIN, MAX);
        }
        allDue("page(0, ..)", w -> x.page(0, w), -1, -1, 6, MIN, MAX);
        due("the last page", x.page(7, 2), 64);
    }

    private static void slotBounds() {
        put("pq");
        put("r");
        x.put();
        x.drop(1);
        due("its first byte", x.slot(0, 0, 3), 'p');
        due("its last byte", x.slot(0, 0, 4), 'q');
        allDue("slot(0, 0, ..)", w -> x.slot(0, 0, w), -1, 5, -1, 43, MIN, MAX);
        due("empty", x.slot(0, 1, 0), 0);
        allDue("of an empty one", w -> x.slot(0, 1, w), -1, 1, 2, 3, 4, -1);
        due("of no bytes", x.slot(0, 2, 1), 61);
        due("of no bytes", x.slot(0, 2, 2), 0);
        due("of no bytes", x.slot(0, 2, 3), -1);
        for (int w = 0; w < 4; w++) {
            int what = w;
            allDue("not in it", s -> x.slot(0, s, what), -1, 3, 11, 12, 16, -1, MIN, MAX);
            allDue("no page", p -> x.slot(p, 0, what), -1, -1, 8, 1, 7, MIN, MAX);
        }
        fresh();
        put(40, 9);
        due("its byte 39", x.slot(0, 0, 42), 9);
        due("no byte 40", x.slot(0, 0, 43), -1);
    }

    private static void mapSearchBounds() {
        allDue("map", n -> x.map(n), -1, 0, 16, -1, MIN, MAX);
        due("map(1)", x.map(1), 8);
        due("map(15)", x.map(15), 8);
        allDue("search", m -> x.search(m), -1, -1, 41, MIN, MAX);
        due("search(0)", x.search(0), 0);
        due("search(40)", x.search(40), 0);
        put(40, 1);
        due("search changes nothing", x.search(40) + x.search(40), 2);
    }

    private static void scanAbove() {
        due("none", x.scan(0), -1);
        due("none", x.above(-1), -1);
        rule("bars if page < time");
        x.put();
        x.terms(0, 7);
        for (int i = 0; i < 12; i++) {
            x.put();
        }
        int[] own = {0, 112, 113, 114, 115, 116, 117, 118, 119, 120, 121, 122, 123};
        for (int i = 0; i < own.length; i++) {
            due("scan(" + i + ")", x.scan(i), own[i]);
        }
        allDue("scan", i -> x.scan(i), -1, 13, 127, 128, -1, MIN, MAX);
        allDue("above", a -> x.above(a), 0, -1, -2, -128, MIN, MIN + 1);
        allDue("above", a -> x.above(a), 112, 0, 1, 111);
        due("above(122)", x.above(122), 123);
        allDue("above", a -> x.above(a), -1, 123, 124, 127, 128, MAX - 1, MAX);
    }

    private static void piecesBounds() {
        put(20, 1);
        put(36, 2);
        due("one cell", x.pieces(0, 0), 1);
        due("one page", x.pieces(0, 1), 1);
        rewrite(0, 30, 3);
        due("a stub is one, too", x.pieces(0, 0), 2);
        due("two pages", x.pieces(0, 1), 2);
        allDue("pieces(.., 0)", a -> x.pieces(a, 0), -1, 2, 16, -1, 127, 128, MIN, MAX);
        allDue("pieces(.., 1)", a -> x.pieces(a, 1), -1, 2, 16, -1, 127, 128, MIN, MAX);
        allDue("pieces(0, ..)", w -> x.pieces(0, w), -1, 2, -1, MIN, MAX);
        fresh();
        int a = put(200, 1);
        due("six cells", x.pieces(a, 0), 6);
        due("five different pages", x.pieces(a, 1), 5);
        fresh();
        int b = put(41, 1);
        due("head and piece", x.pieces(b, 0), 2);
        due("on one page", x.pieces(b, 1), 1);
        fresh();
        rule("bars if page < 7");
        due("on the last page", put(1, 1), 112);
        due("one cell", x.pieces(112, 0), 1);
        due("one page", x.pieces(112, 1), 1);
        rule("bars if page < 2");
        int c = put(115, 1);
        due("four cells", x.pieces(c, 0), 4);
        due("three different pages, not the first", x.pieces(c, 1), 3);
        fresh();
        rule("bars if page < 7");
        for (int i = 0; i < 9; i++) {
            x.put();
        }
        x.drop(112);
        due("long", rewrite(120, 41, 1), 2);
        due("two cells", x.pieces(120, 0), 2);
        due("far apart on one page", x.pieces(120, 1), 1);
    }

    private static void sortedBounds() {
        due("none", x.sorted(0), -1);
        for (String one : new String[] {"b", "ab", "a", "" + (char) 255, "", "a", "" + (char) 127, "" + (char) 128, "" + (char) 0, "aa"}) {
            put(one);
        }
        int[] want = {4, 8, 2, 5, 9, 1, 0, 6, 7, 3};
        for (int i = 0; i < want.length; i++) {
            due("sorted(" + i + ")", x.sorted(i), want[i]);
        }
        allDue("sorted", i -> x.sorted(i), -1, 10, -1, 128, MIN, MAX);
        fresh();
        int longer = put(200, 5);
        int shorter = put(199, 5);
        due("199 alike, ahead of one that goes on", x.sorted(0), shorter == -5 ? longer : shorter);
        fresh();
        int[] bytes = Tape.row(100, 5);
        Tape.feed(x, bytes);
        int first = x.put();
        bytes[99] = 4;
        Tape.feed(x, bytes);
        int second = x.put();
        due("the last byte is less", x.sorted(0), second);
        due("behind it", x.sorted(1), first);
        bytes[99] = 5;
        Tape.feed(x, bytes);
        rewrite(second, 0, 0);
        Tape.feed(x, bytes);
        x.rewrite(second);
        due("alike ones by address", x.sorted(0), Math.min(first, second));
    }

    private static void findBounds() {
        due("none", x.find(), -1);
        put("ab");
        put("ab");
        due("the lowest", find("ab"), 0);
        due("less", find("a"), -1);
        due("more", find("abc"), -1);
        due("the last byte is another one", find("ac"), -1);
        due("the first byte is another one", find("bb"), -1);
        due("nothing", find(""), -1);
        x.put();
        due("nothing", find(""), 2);
        int a = put(200, 7);
        due("200", find(200, 7), a);
        due("199", find(199, 7), -1);
        due("201", find(201, 7), -1);
        due("400", find(400, 7), -1);
        due("the tape is empty then", x.count(6), 0);
        due("200 of others", find(200, 8), -1);
        x.drop(0);
        due("the other one", find("ab"), 1);
        due("that is not REFUSED", x.count(8), 0);
    }

    private static void fitBounds() {
        allDue("fit", n -> x.fit(n), -1, -1, 201, MIN, MAX);
        int[][] all = {{0, 96}, {1, 96}, {14, 32}, {15, 24}, {22, 16}, {30, 16}, {31, 8}, {40, 8}, {41, 8}, {50, 8}, {62, 5}, {76, 4}, {77, 4},
            {100, 3}, {114, 2}, {152, 2}, {190, 1}, {200, 1}};
        for (int[] one : all) {
            due("fit(" + one[0] + ")", x.fit(one[0]), one[1]);
        }
        due("on paper", x.count(0), 0);
        for (int i = 0; i < 8; i++) {
            put(40, 1);
        }
        due("14 come", x.fit(14), 8);
        due("15 do not", x.fit(15), 0);
        due("nor long ones", x.fit(41), 0);
        rule("bars if page > 0");
        due("by the law in force", x.fit(14), 1);
        String was = stand();
        x.fit(0);
        same("on paper", was);
    }

    private static void worstBounds() {
        for (int i = 0; i < 8; i++) {
            due("alike ones by number", x.worst(i), i);
        }
        allDue("worst", i -> x.worst(i), -1, 8, -1, MIN, MAX);
        for (int p = 0; p < 8; p++) {
            put(40, p);
        }
        for (int p = 0; p < 8; p++) {
            put(14, p);
        }
        x.drop(7 * 16);
        x.drop(3 * 16);
        x.drop(5 * 16);
        x.pack(5);
        int[] want = {3, 7, 0, 1, 2, 4, 5, 6};
        for (int i = 0; i < 8; i++) {
            due("the most first", x.worst(i), want[i]);
        }
    }

    private static void fewBounds() {
        allDue("few(.., 1)", k -> (int) x.few(k, 1), -1, 0, 21, -1, MIN, MAX);
        allDue("few(1, ..)", n -> (int) x.few(1, n), -1, -1, 100, MIN, MAX);
        long[][] all = {{1, 0, 1, 1000000000000L}, {20, 0, 1, 1000000000000L}, {1, 1, 0, 1000000000000L}, {1, 1, 10, 0}, {2, 1, 10, 1000000000000L},
            {1, 13, 1, 254186582832L}, {1, 14, 1, 228767924548L}, {20, 99, 1, 998255635351L}, {1, 99, 1, 29512660L}, {20, 20, 1, 999999999894L},
            {20, 99, 9, 0}, {2, 99, 1, 354151967L}, {10, 50, 3, 40231633996L}, {20, 20, 10, 0}, {20, 19, 10, 1000000000000L},
            {3, 7, 7, 28795500000L}, {20, 20, 9, 878423345307L}, {20, 99, 0, 1000000000000L}};
        for (long[] one : all) {
            x.terms(1, (int) one[2]);
            due("few(" + one[0] + ", " + one[1] + ") with " + one[2], x.few((int) one[0], (int) one[1]), one[3]);
        }
        due("that is not REFUSED", x.count(7), 0);
    }

    private static void compareBounds() {
        allDue("compare(.., 0)", l -> x.compare(l, 0), -1, 0, 1, 6, -2, MIN, MAX);
        allDue("compare(-1, ..)", m -> x.compare(-1, m), -1, -1, 41, MIN, MAX);
        due("none: 0", x.compare(-1, 0), 0);
        due("none: 40", x.compare(-1, 40), 0);
        rule("bars");
        law("bars if page < 7");
        due("it tells none", x.compare(0, 0), -1);
        due("another one", x.compare(1, 40), 7);
        due("none in place of it", x.compare(-1, 40), 0);
        due("that in force stays", x.count(12), 0);
        allDue("compare(1, ..)", m -> x.compare(1, m), -1, -1, 41, MIN, MAX);
        due("no such law", x.compare(2, 0), -1);
        due("that is not REFUSED", x.count(8), 0);
    }

    private static void daysBounds() {
        int[][] wrong = {{-1, 1}, {1000001, 1}, {0, 0}, {0, 61}, {0, -1}, {MIN, 1}, {MAX, 1}, {0, MIN}, {0, MAX}};
        for (int[] w : wrong) {
            fresh();
            refusedBy("days(" + w[0] + ", " + w[1] + ")", () -> x.days(w[0], w[1]), -1);
            due("none kept", x.drawn(0, 0), -1);
        }
        String was = stand();
        due("the least of both", x.days(0, 1), 1);
        due("the most of both", x.days(1000000, 60), 10);
        same("on paper", was);
        rule("bars");
        due("each if it can be", x.days(0, 60), 0);
    }

    /** Seed, days, records, then FREE, PROMISE and cells of each page. */
    private static void daysBehind() {
        int[][] all = {{0, 1, 1, 37, 4, 1, 64, 8, 0, 64, 8, 0, 64, 8, 0, 64, 8, 0, 64, 8, 0, 64, 8, 0, 64, 8, 0},
            {1000000, 1, 1, 56, 7, 1, 64, 8, 0, 64, 8, 0, 64, 8, 0, 64, 8, 0, 64, 8, 0, 64, 8, 0, 64, 8, 0},
            {0, 60, 10, 30, 0, 2, 7, 0, 3, 6, 0, 3, 46, 5, 2, 64, 1, 0, 64, 2, 0, 64, 2, 0, 31, 3, 1},
            {1000000, 60, 10, 6, 0, 4, 1, 0, 2, 12, 1, 3, 64, 1, 0, 43, 0, 1, 64, 2, 0, 41, 5, 1, 47, 5, 1},
            {5, 60, 15, 9, 1, 3, 1, 0, 3, 12, 1, 3, 36, 4, 1, 21, 2, 2, 12, 1, 3, 10, 1, 2, 64, 1, 0},
            {77, 30, 10, 4, 0, 3, 6, 0, 2, 12, 1, 2, 15, 1, 2, 22, 0, 2, 22, 2, 1, 22, 2, 1, 22, 2, 1},
            {123456, 45, 11, 5, 0, 4, 0, 0, 3, 35, 4, 3, 34, 4, 2, 22, 2, 1, 64, 3, 0, 64, 3, 0, 64, 2, 0}};
        for (int[] one : all) {
            due("days(" + one[0] + ", " + one[1] + ")", x.days(one[0], one[1]), one[2]);
            for (int p = 0; p < 8; p++) {
                for (int w = 0; w < 3; w++) {
                    due("drawn(" + p + ", " + w + ") behind " + one[0], x.drawn(p, w), one[3 + 3 * p + w]);
                }
            }
        }
    }

    /** Records of 40 bytes on pages 0, 1, 2; the second one and the third one may be dropped: their pages promise too little. */
    private static void threeRecords(int dropped) {
        fresh();
        for (int i = 0; i < 3; i++) {
            due("put", put(40, 1), 16 * i);
        }
        for (int i = 0; i < dropped; i++) {
            x.drop(16 + 16 * i);
        }
    }

    /** One day each: seed, how many records are gone ahead of it, records, then FREE, PROMISE and cells of pages 0 to 4. */
    private static void daysEach() {
        int[][] all = {
            // Draws of 0, of 69, of 40, of 41 bytes, put.
            {1246, 0, 4, 20, 2, 2, 22, 2, 1, 22, 2, 1, 64, 8, 0, 64, 8, 0},
            {88, 0, 4, 22, 2, 1, 22, 2, 1, 22, 2, 1, 29, 3, 1, 22, 2, 1},
            {906, 0, 4, 22, 2, 1, 22, 2, 1, 22, 2, 1, 22, 2, 1, 64, 8, 0},
            {943, 0, 4, 15, 1, 2, 22, 2, 1, 22, 2, 1, 22, 2, 1, 64, 8, 0},
            // 4, 5: 10 bytes at 16 (just that address), 12 at 32 (it was 17), 12 at 0, 69 at 16; none not below 127.
            {2738, 0, 3, 22, 2, 1, 52, 6, 1, 22, 2, 1, 64, 8, 0, 64, 8, 0},
            {3232, 0, 3, 22, 2, 1, 22, 2, 1, 50, 6, 1, 64, 8, 0, 64, 8, 0},
            {1060, 0, 3, 50, 6, 1, 22, 2, 1, 22, 2, 1, 64, 8, 0, 64, 8, 0},
            {96864, 0, 3, 22, 2, 1, 22, 2, 1, 22, 2, 1, 29, 3, 1, 64, 8, 0},
            {566, 0, 3, 22, 2, 1, 22, 2, 1, 22, 2, 1, 64, 8, 0, 64, 8, 0},
            // 6: 16 (just that address), 0 are dropped; none not below 33.
            {999, 0, 2, 22, 2, 1, 64, 2, 0, 22, 2, 1, 64, 8, 0, 64, 8, 0},
            {12, 0, 2, 64, 2, 0, 22, 2, 1, 22, 2, 1, 64, 8, 0, 64, 8, 0},
            {777, 0, 3, 22, 2, 1, 22, 2, 1, 22, 2, 1, 64, 8, 0, 64, 8, 0},
            // 7: 31 by 16 is page 1, 32 by 16 is page 2, 127 by 16 is page 7.
            {2016, 2, 1, 22, 2, 1, 64, 8, 0, 64, 2, 0, 64, 8, 0, 64, 8, 0},
            {938, 2, 1, 22, 2, 1, 64, 2, 0, 64, 8, 0, 64, 8, 0, 64, 8, 0},
            {304, 2, 1, 22, 2, 1, 64, 2, 0, 64, 2, 0, 64, 8, 0, 64, 8, 0}};
        for (int[] one : all) {
            threeRecords(one[1]);
            String was = stand();
            due("days(" + one[0] + ", 1)", x.days(one[0], 1), one[2]);
            for (int p = 0; p < 5; p++) {
                for (int w = 0; w < 3; w++) {
                    due("drawn(" + p + ", " + w + ") behind " + one[0], x.drawn(p, w), one[3 + 3 * p + w]);
                }
            }
            same("on paper", was);
        }
    }

    private static void drawnBounds() {
        allDue("ahead of any", p -> x.drawn(p, 0), -1, 0, 7, 8, -1);
        x.days(5, 1);
        for (int w = 0; w < 3; w++) {
            int what = w;
            allDue("drawn(.., " + w + ")", p -> x.drawn(p, what), -1, -1, 8, MIN, MAX);
        }
        allDue("drawn(0, ..)", w -> x.drawn(0, w), -1, -1, 3, MIN, MAX);
        due("FREE", x.drawn(0, 0), 52);
        due("PROMISE", x.drawn(0, 1), 6);
        due("cells", x.drawn(0, 2), 1);
        x.days(5, 61);
        x.days(-1, 1);
        put(40, 1);
        x.fit(1);
        x.image(0);
        x.back(0);
        due("the latest that were", x.drawn(0, 0), 52);
        x.days(5, 1);
        due("later ones", x.drawn(0, 0), 10);
    }

    private static void imageBounds() {
        for (int k : new int[] {-1, 2, MIN, MAX}) {
            refusedBy("image(" + k + ")", () -> x.image(k), -1);
            refusedBy("back(" + k + ")", () -> x.back(k), -1);
        }
        fresh();
        refusedBy("back(0), not kept", () -> x.back(0), -2);
        refusedBy("back(1), not kept", () -> x.back(1), -2);
        put(1, 1);
        due("image", x.image(0), 0);
        refusedBy("back(1), not kept", () -> x.back(1), -2);
        due("a refused one leaves what can be undone", x.count(5), 1);
        put(2, 2);
        due("image", x.image(1), 0);
        put(3, 3);
        due("back", x.back(1), 0);
        due("two", x.count(0), 2);
        due("back", x.back(0), 0);
        due("one", x.count(0), 1);
        due("images stay", x.back(1), 0);
        due("two", x.count(0), 2);
        due("kept again", x.image(0), 0);
        x.drop(0);
        due("back", x.back(0), 0);
        due("as it was then", x.count(0), 2);
    }

    private static void imageKeeps() {
        put(20, 1);
        put(36, 2);
        rewrite(0, 30, 3);
        put(100, 4);
        x.drop(1);
        rule("leaves 3");
        x.terms(0, 1);
        x.terms(1, 2);
        x.terms(2, 3);
        x.image(1);
        String was = stand();
        String standing = was.substring(0, was.lastIndexOf('\n'));
        x.drop(0);
        x.mend();
        put(200, 9);
        law("bars");
        x.force(1);
        x.terms(0, 999);
        x.terms(1, 10);
        x.terms(2, 9);
        x.back(1);
        String then = stand();
        check.holds("pages, promises", then.substring(0, then.lastIndexOf('\n')).equals(standing));
        int[] counts = {1, 0, 0, 1, 2, 3};
        int[] at = {4, 5, 12, 13, 14, 15};
        for (int i = 0; i < at.length; i++) {
            due("count(" + at[i] + ")", x.count(at[i]), counts[i]);
        }
        due("the other law is gone", x.compare(1, 0), -1);
        fresh();
        x.image(0);
        rule("bars if page < 3");
        x.image(1);
        x.back(0);
        due("no law", x.count(4), 0);
        due("none in force", x.search(0), 0);
        rule("bars if page < 5");
        due("another law 0", x.search(0), 5);
        x.back(1);
        due("its own law 0, in force", x.search(0), 3);
        due("the law 0 to compare with", x.compare(0, 0), 3);
        x.back(0);
        due("none again", x.search(0), 0);
        due("no law to compare with", x.compare(0, 0), -1);
    }

    private static void imageDoesNotKeep() {
        put("ab");
        x.image(0);
        put("xyz");
        x.view(1);
        x.days(5, 1);
        due("drawn", x.drawn(0, 2), 3);
        due("stopped", orders("mend; drop 99"), -3);
        due("fault", law("bars 1"), -6);
        x.drop(99);
        x.pack(99);
        x.undo();
        x.undo();
        x.undo();
        law("bars");
        x.force(0);
        put(1, 1);
        faultOfLaw("bars 2", 5);
        Tape.feed(x, "tape");
        due("back", x.back(0), 0);
        due("the tape", x.count(6), 4);
        due("fault", x.fault(), 5);
        due("stopped", x.stopped(), 1);
        due("the view", x.sign(2), 'z');
        due("the latest days", x.drawn(0, 2), 3);
        due("what can be undone: nothing", x.count(5), 0);
        int[] refused = {1, 1, 2, 1, 2};
        for (int i = 0; i < 5; i++) {
            due("count(" + (7 + i) + ")", x.count(7 + i), refused[i]);
        }
        due("status is back's", x.status(), 0);
    }

    private static void countBounds() {
        allDue("count", w -> x.count(w), -1, -1, 16, MIN, MAX);
        put(20, 1);
        put(36, 2);
        rewrite(0, 30, 3);
        put(100, 4);
        x.put();
        due("a stub's record is one", x.count(0), 4);
        due("their bytes, no links", x.count(1), 30 + 36 + 100);
        due("stubs", x.count(2), 1);
        due("pieces, no heads", x.count(3), 2);
        due("undo", x.count(5), 5);
        x.feed(0, 0, 0, 0, 0);
        due("bytes of the tape", x.count(6), 20);
        due("others are not counted", x.count(7) + x.count(8) + x.count(9) + x.count(10) + x.count(11), 0);
    }

    private static void statusBounds() {
        due("ahead of any", x.status(), 0);
        x.view(9);
        x.feed(1, 1, 1, 1, 1);
        x.end(99);
        x.few(0, 0);
        x.fit(-1);
        due("others are none", x.status(), 0);
        x.drop(9);
        due("the latest call", x.status(), -2);
        x.end(0);
        x.find();
        x.search(3);
        x.compare(0, 0);
        x.drawn(0, 0);
        x.fault();
        x.stopped();
        x.count(8);
        x.status();
        due("others leave it", x.status(), -2);
        x.mend();
        due("it was not", x.status(), 0);
    }

    /** Each call that is told by status(): refused, then done. */
    private static void statusOfEach() {
        java.util.function.IntSupplier[] refused = {() -> x.terms(3, 0), () -> law("x"), () -> orders("x"), () -> x.force(6), () -> put(201, 1),
            () -> x.rewrite(99), () -> x.drop(99), () -> x.pack(8), () -> x.undo(), () -> x.days(0, 0), () -> x.image(2), () -> x.back(1)};
        int[] by = {-1, -6, -6, -2, -6, -2, -2, -1, -3, -1, -1, -2};
        java.util.function.IntSupplier[] done = {() -> x.terms(0, 0), () -> law("bars"), () -> orders("mend"), () -> x.force(-1), () -> put(1, 1),
            () -> x.rewrite(x.scan(0)), () -> x.drop(x.scan(0)), () -> x.pack(0), () -> x.undo(), () -> x.days(0, 1), () -> x.image(0),
            () -> x.back(0)};
        for (int i = 0; i < by.length; i++) {
            fresh();
            due("call " + i + " refused", refused[i].getAsInt(), by[i]);
            due("call " + i + " refused: status", x.status(), by[i]);
            due("call " + i + " refused: counted", x.count(by[i] >= -3 ? 6 - by[i] : 5 - by[i]), 1);
            put(1, 1);
            x.image(0);
            x.drop(99);
            due("call " + i + " done", done[i].getAsInt() < 0 && i != 3 ? -1 : 0, 0);
            due("call " + i + " done: status", x.status(), 0);
        }
    }

    public static void main(String[] args) {
        run("promise 1: eight bare pages", CallBoundTests::bare);
        run("promise 2: terms, each from its least to its most; -1", CallBoundTests::termsBounds);
        run("promise 2: it leaves what can be undone", CallBoundTests::termsLeaveUndo);
        run("promise 3: four bytes of each number, the highest first", CallBoundTests::feedBytes);
        run("promise 3: none, if there would be more than 400", CallBoundTests::feedFull);
        run("promise 4: none, if it has not so many, or n is below 0", CallBoundTests::endBounds);
        run("promise 5: its number; -5 ahead of reading it", CallBoundTests::lawNumbers);
        run("promise 5: -6, blanks alone", CallBoundTests::lawTexts);
        run("promise 6: -3, -6, blanks alone; none was run", CallBoundTests::ordersTexts);
        run("promise 7: the latest that read a text, none without", CallBoundTests::faultBounds);
        run("promise 8: none if done, refused by -6, ahead of any", CallBoundTests::stoppedBounds);
        run("promise 9: none, the first, the last law; -2", CallBoundTests::forceBounds);
        run("promise 10: none, too; -5, -6 asked ahead of it", CallBoundTests::putBounds);
        run("promise 11: 0, 1, 2; -2, -5, -6 asked ahead of it", CallBoundTests::rewriteBounds);
        run("promise 12: how many bytes it had; -2", CallBoundTests::dropBounds);
        run("promise 13: what waste was; -1", CallBoundTests::packBounds);
        run("promise 14: how many promises are others", CallBoundTests::mendBounds);
        run("promise 15: 16 are kept; -3", CallBoundTests::undoKept);
        run("promise 15: 0 to 4, all are as they were", CallBoundTests::undoKinds);
        run("promise 15: each undone, all pages, promises are as they were", CallBoundTests::undoEach);
        run("promise 15: each undone, by orders, too", CallBoundTests::undoOrders);
        run("promise 15: undone, back, ended orders: bytes of the first and the last page", CallBoundTests::undoBytes);
        run("promise 15: the oldest ones are not kept", CallBoundTests::undoOldest);
        run("promise 15: what others leave of it", CallBoundTests::undoLeft);
        run("promise 16: how many bytes, none", CallBoundTests::viewBounds);
        run("promise 17: the latest view that could be, none", CallBoundTests::signBounds);
        run("promise 18: page, none", CallBoundTests::pageBounds);
        run("promise 19: slot, none of an empty one, none behind its bytes", CallBoundTests::slotBounds);
        run("promises 20 and 21: map, search, none", CallBoundTests::mapSearchBounds);
        run("promises 22 and 23: scan, above, none", CallBoundTests::scanAbove);
        run("promise 24: cells, different pages, none", CallBoundTests::piecesBounds);
        run("promise 25: in order, none", CallBoundTests::sortedBounds);
        run("promise 26: just the tape's bytes, none", CallBoundTests::findBounds);
        run("promise 27: fit 0 to 200, none", CallBoundTests::fitBounds);
        run("promise 28: worst, alike ones by number, none", CallBoundTests::worstBounds);
        run("promise 29: few, k 1 to 20, n 0 to 99, both cut, none", CallBoundTests::fewBounds);
        run("promise 30: compare, m 0 to 40, none", CallBoundTests::compareBounds);
        run("promise 31: seeds 0 to 1,000,000, days 1 to 60; -1", CallBoundTests::daysBounds);
        run("promise 31: days by draws, modulo 1,000,003", CallBoundTests::daysBehind);
        run("promise 31: each kind of day, on paper", CallBoundTests::daysEach);
        run("promise 32: the latest days, none", CallBoundTests::drawnBounds);
        run("promises 33 and 34: images 0, 1; -1, -2", CallBoundTests::imageBounds);
        run("promises 33 and 34: what an image keeps", CallBoundTests::imageKeeps);
        run("promises 33 and 34: what an image does not keep", CallBoundTests::imageDoesNotKeep);
        run("promise 35: counts, none for others", CallBoundTests::countBounds);
        run("promise 36: the latest of some calls, 0 ahead of any", CallBoundTests::statusBounds);
        run("promise 36: each of these calls", CallBoundTests::statusOfEach);
        check.close();
    }
}
