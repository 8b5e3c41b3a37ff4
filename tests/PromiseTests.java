/** For each promise of the document what its words ask: ordinary inputs, edges, wrong inputs. */
public final class PromiseTests extends Bench {
    private static void p01() {
        fresh();
        for (int p = 0; p < 8; p++) {
            int[] bare = {0, 0, 64, 64, 0, 8};
            for (int w = 0; w < 6; w++) {
                due("page(" + p + ", " + w + ")", x.page(p, w), bare[w]);
            }
            due("slot", x.slot(p, 0, 0), -1);
            due("drawn", x.drawn(p, 0), -1);
        }
        for (int w = 0; w < 16; w++) {
            due("count(" + w + ")", x.count(w), w == 12 ? -1 : w == 14 ? 1 : 0);
        }
        due("status", x.status(), 0);
        due("fault", x.fault(), -1);
        due("stopped", x.stopped(), -1);
        due("undo", x.undo(), -3);
        due("back(0)", x.back(0), -2);
        due("back(1)", x.back(1), -2);
    }

    private static void p02() {
        fresh();
        due("terms", x.terms(0, 999), 0);
        due("terms", x.terms(0, 0), 999);
        due("terms", x.terms(1, 10), 1);
        due("terms", x.terms(1, 0), 10);
        due("terms", x.terms(2, 9), 0);
        due("terms", x.terms(2, 3), 9);
        int[][] wrong = {{0, 1000}, {0, -1}, {1, 11}, {1, -1}, {2, 10}, {2, -1}, {3, 0}, {-1, 0}, {MIN, 0}, {MAX, 0}, {0, MIN}, {0, MAX}};
        for (int[] w : wrong) {
            due("terms(" + w[0] + ", " + w[1] + ")", x.terms(w[0], w[1]), -1);
            due("status", x.status(), -1);
        }
        due("count 7", x.count(7), wrong.length);
        due("count 13", x.count(13), 0);
        due("count 14", x.count(14), 0);
        due("count 15", x.count(15), 3);
        x.mend();
        x.terms(0, 5);
        due("it leaves what can be undone", x.count(5), 1);
        due("undo", x.undo(), 4);
        due("time stays", x.count(13), 5);
    }

    private static void p03() {
        fresh();
        due("feed", x.feed(0x01020304, 0x7f80ff00, MIN, MAX, -1), 20);
        int[] want = {1, 2, 3, 4, 127, 128, 255, 0, 128, 0, 0, 0, 127, 255, 255, 255, 255, 255, 255, 255};
        due("put", x.put(), 0);
        due("view", x.view(0), 20);
        for (int i = 0; i < 20; i++) {
            due("sign " + i, x.sign(i), want[i]);
        }
        for (int i = 1; i <= 20; i++) {
            due("feed " + i, x.feed(i, i, i, i, i), 20 * i);
        }
        due("feed beyond", x.feed(1, 1, 1, 1, 1), -1);
        due("tape", x.count(6), 400);
        due("end", x.end(381), 381);
        due("feed beyond", x.feed(1, 1, 1, 1, 1), -1);
        due("tape", x.count(6), 381);
        due("end", x.end(380), 380);
        due("feed", x.feed(1, 1, 1, 1, 1), 400);
        due("status untouched", x.status(), 0);
        due("not refused", x.count(7), 0);
    }

    private static void p04() {
        fresh();
        due("end(0)", x.end(0), 0);
        due("end(1)", x.end(1), -1);
        due("end(-1)", x.end(-1), -1);
        x.feed(0x41424344, 0, 0, 0, 0);
        due("end(21)", x.end(21), -1);
        due("end(20)", x.end(20), 20);
        due("end(3)", x.end(3), 3);
        due("end(4)", x.end(4), -1);
        due("end(MIN)", x.end(MIN), -1);
        due("end(MAX)", x.end(MAX), -1);
        due("tape", x.count(6), 3);
        due("feed goes on there", x.feed(0x45000000, 0, 0, 0, 0), 23);
        x.end(4);
        x.put();
        due("view", x.view(0), 4);
        due("sign", x.sign(2), 'C');
        due("sign", x.sign(3), 'E');
        due("status untouched", x.status(), 0);
    }

    private static void p05Numbers() {
        fresh();
        x.mend();
        for (int i = 0; i < 6; i++) {
            due("law", law("leaves " + i), i);
            due("tape", x.count(6), 0);
        }
        due("count 4", x.count(4), 6);
        due("law", law("leaves ("), -5);
        due("status", x.status(), -5);
        due("not read", x.fault(), -1);
        due("tape empty", x.count(6), 0);
        due("count 10", x.count(10), 1);
        due("undo left", x.count(5), 1);
        due("none in force", x.count(12), -1);
        fresh();
        faultOfLaw("", 0);
        faultOfLaw("     ", 5);
        due("tape empty", x.count(6), 0);
        due("count 11", x.count(11), 2);
        due("status", x.status(), -6);
        due("law", law(" bars "), 0);
        due("status", x.status(), 0);
        due("fault", x.fault(), -1);
    }

    private static void p05Meaning() {
        fresh();
        rule("leaves 10");
        due("search", x.search(40), 0);
        put(12, 1);
        due("50 - 38 - 2 = 10", x.search(38), 0);
        due("50 - 39 - 2 < 10", x.search(39), 1);
        rule("leaves 64");
        due("bare, but 64", x.search(0), -1);
        rule("leaves 0 - 5");
        due("below 0 is 0", x.search(40), 0);
        rule("leaves 1000 * 2");
        due("beyond 64 is 64", x.search(0), -1);
        rule("leaves 64; leaves 3 if page > 4");
        due("the last that holds", x.search(5), 5);
        rule("bars if page < 2; leaves 0");
        due("barred", x.search(1), 2);
        x.back(0);
        fresh();
        rule("bars if page = 0 and time = 7; bars if mood = 2 and size = 9; bars if promise = 8 and page = 3");
        due("free for all", x.search(9), 0);
        x.terms(0, 7);
        due("time", x.search(9), 1);
        x.terms(2, 2);
        due("mood and size", x.search(9), -1);
        due("size is asked for", x.search(8), 1);
        rule("bars if page < 3 or page = 3 and promise = 8");
        due("promise", x.search(0), 4);
        rule("bars if slots = 0");
        due("slots", x.search(0), -1);
        rule("bars if free > 60 and page < 7");
        due("free", x.search(0), 7);
    }

    private static void p05Broken() {
        fresh();
        rule("leaves 60; leaves 1 / page if page < 2; leaves 62 if 1 % page = 0 and page = 0; bars if 1 / page > 5");
        due("page 0: a broken sum and broken tests do not hold", x.search(2), 0);
        due("page 0 leaves 60", x.search(3), 1);
        rule("leaves 60; leaves 61 if page = 0 or 1 / 0 = 1; leaves 50 if page = 1 and 1 / 0 = 1");
        due("or asks no more where it is so", x.search(1), 0);
        due("page 1: or is broken, and is broken", x.search(2), 1);
        rule("leaves 64 if page < 3; leaves 64 if not (page > 2 or 1 / 0 = 0) or page = 3");
        due("broken within brackets", x.search(0), 4);
        rule("leaves 64 if 1000 * 1000 * 1000 = 1000 * 1000 * 1000");
        due("a thousand millions are fine", x.search(0), -1);
        fresh();
        rule("leaves 64 if 1000 * 1000 * 1000 + 1 > 0");
        due("one more is broken", x.search(0), 0);
        rule("leaves 64 if 0 - 1000 * 1000 * 1000 < 0");
        due("as far below", x.search(0), -1);
        rule("leaves 64 if 0 - 1000 * 1000 * 1000 - 1 < 0");
        due("one less is broken", x.search(0), 0);
        rule("leaves 64 if 1000 * 1000 * 1000 * 2 / 1000 > 0");
        due("on the way, too", x.search(0), 0);
        rule("bars if [0 - 7] / 2 = [0 - 3] and [0 - 7] % 2 = [0 - 1]; bars if 2 + 3 * 4 - 10 - 3 = 2");
        due("signs", x.search(0), -1);
        rule("bars if 7 / 2 * 2 = 7; bars if 1 - 2 - 3 = 2; bars if 100 / 10 / 2 = 20");
        due("from the left", x.search(0), 0);
    }

    private static void p06Ordinary() {
        fresh();
        due("orders", orders("put 3 of 65; grow 0 to 4; put 1 of 66 times 2 if live < 3; drop 1; pack 0; mend"), 7);
        due("tape", x.count(6), 0);
        due("count 5", x.count(5), 7);
        due("status", x.status(), 0);
        due("view", x.view(0), 4);
        due("sign", x.sign(3), 7);
        due("view", x.view(2), 1);
        due("sign", x.sign(0), 66);
        due("none", x.view(1), -1);
        int[] kinds = {4, 3, 2, 0, 0, 1, 0};
        for (int kind : kinds) {
            due("undo", x.undo(), kind);
        }
        due("undo", x.undo(), -3);
        due("orders", orders("put done of done times 3; put latest of live; put free 0 of promise 0; drop 1"), 6);
        due("latest was 2", x.view(3), 2);
        due("live was 3", x.sign(1), 3);
        due("FREE was 64 - 8 - 5; its head has no place on page 0", x.view(16), 51);
        due("PROMISE was 6", x.sign(50), 6);
        due("if asked each time", orders("drop 0 times 20 if live = 4"), 1);
        due("not so", orders("put 1 of 1 if 1 = 2; drop 99 if 1 / 0 = 1; put 1 of 1 if done > 0"), 0);
        x.terms(0, 17);
        due("time", orders("put time of time + 1"), 1);
        due("time", find(many("" + (char) 18, "", 17)) >= 0 ? 1 : 0, 1);
        due("none put yet", orders("put latest + 1 of 0; put 1 of 1 if latest = 0 - 1"), 1);
        fresh();
        due("the latest at 0", orders("put 1 of 1; drop latest"), 2);
        due("the latest one told, even dropped", orders("put 1 of 1; put 1 of 2; drop 1; put 5 + latest of 3; drop latest"), 5);
        due("records", x.count(0), 1);
        fresh();
        put(40, 1);
        due("grow to 200: two pieces come to its own page", orders("grow 0 to 200"), -3);
        rule("bars if page = 0");
        due("grow to 200", orders("grow 0 to 200"), 1);
        due("view", x.view(0), 200);
        due("sign", x.sign(199), 7);
        due("grow to nothing", orders("grow 0 to 0"), 1);
        due("view", x.view(0), 0);
    }

    private static void p06CantBe() {
        fresh();
        put("ab");
        int was = x.count(5);
        String[] texts = {"put 201 of 0", "put 1 of 256", "put 0 - 1 of 1", "put 0 of 0 - 1", "put 1 / 0 of 1", "put 1 of 1 % 0",
            "put 1000 * 1000 * 1000 * 2 of 1", "grow 2 to 1", "grow 0 to 201", "grow 0 to 0 - 1", "grow latest + 1 to 1", "grow 128 to 1",
            "drop 2", "drop 0 - 1", "drop 16", "drop 1 / 0", "pack 8", "pack 0 - 1", "put 200 of 1 times 3", "grow 0 to 1 / 0",
            "drop 1000 * 1000 * 1000", "pack 1 % 0"};
        for (String text : texts) {
            due(text, orders("mend; put 1 of 1; " + text + "; mend"), -3);
            due("stopped of " + text, x.stopped(), 2);
            due("records", x.count(0), 1);
            due("undo kept", x.count(5), was);
            due("free", x.page(0, 2), 60);
            due("promise", x.page(0, 5), 7);
            due("tape", x.count(6), 0);
            due("status", x.status(), -3);
            due("fault", x.fault(), -1);
        }
        due("count 9", x.count(9), texts.length);
        due("200 of 255 can be", orders("put 200 of 255; grow 0 to 200"), -3);
        due("stopped", x.stopped(), 1);
        due("200 of 255 can be", orders("put 200 of 255; grow 0 to 40"), 2);
        due("stopped", x.stopped(), -1);
        due("all is undone with what was before, too", x.undo() + 10 * x.undo() + 100 * x.undo(), 1);
        due("as it was", x.undo(), -3);
    }

    private static void p06UndoKept() {
        fresh();
        for (int i = 0; i < 16; i++) {
            put(0, 0);
        }
        due("16 can be undone", x.count(5), 16);
        due("orders", orders("mend times 20; drop 99"), -3);
        for (int i = 0; i < 16; i++) {
            due("undo " + i, x.undo(), 0);
        }
        due("all are gone", x.count(0), 0);
        due("orders", orders("mend times 20; put 1 of 1"), 21);
        due("16 of them", x.count(5), 16);
        due("undo", x.undo(), 0);
        for (int i = 0; i < 15; i++) {
            due("undo", x.undo(), 4);
        }
        due("undo", x.undo(), -3);
    }

    private static void p07Laws() {
        fresh();
        due("ahead of any", x.fault(), -1);
        faultOfLaw("leaves", 6);
        faultOfLaw("leaves ", 7);
        faultOfLaw("leave 1", 0);
        faultOfLaw("leavess 1", 0);
        faultOfLaw("  Leaves 1", 2);
        faultOfLaw("leaves 1001", 7);
        faultOfLaw("leaves 99999999999999999999", 7);
        due("leading zeros", law("leaves 0001000"), 0);
        due("fault", x.fault(), -1);
        faultOfLaw("leaves 1 1", 9);
        faultOfLaw("leaves 1 leaves 2", 9);
        faultOfLaw("leaves 1;", 9);
        faultOfLaw("leaves 1; ;bars", 10);
        faultOfLaw(";bars", 0);
        faultOfLaw("bars if", 7);
        faultOfLaw("bars if 1", 9);
        faultOfLaw("bars if 1 <", 11);
        faultOfLaw("bars if 1 < 2 < 3", 14);
        faultOfLaw("bars if (1 < 2", 14);
        faultOfLaw("bars if (1 < 2]", 14);
        faultOfLaw("bars if 1 < 2)", 13);
        faultOfLaw("bars if (1) < 2", 10);
        faultOfLaw("bars if [1 < 2]", 11);
        faultOfLaw("leaves (1)", 7);
        faultOfLaw("leaves []", 8);
        faultOfLaw("leaves 1 +", 10);
        faultOfLaw("leaves - 1", 7);
        faultOfLaw("leaves 1 * * 2", 11);
        faultOfLaw("bars if 1 < 2 and", 17);
        faultOfLaw("bars if not", 11);
        faultOfLaw("bars if 1 < 2 not 1 < 2", 14);
        faultOfLaw("bars 1", 5);
        faultOfLaw("bars times 2", 5);
        faultOfLaw("leaves done", 7);
        faultOfLaw("leaves free 1", 12);
        faultOfLaw("leaves live", 7);
        faultOfLaw("bars if if", 8);
        faultOfLaw("bars \t", 5);
        faultOfLaw("bars" + (char) 0, 4);
        faultOfLaw("bars" + (char) 255, 4);
        due("no blanks needed", law("leaves1+2if3<4and5>6"), 1);
        due("blanks", law("   leaves   1  ;  bars   "), 2);
        due("nots", law("bars if not not not not not 1 = 1"), 3);
    }

    private static void p07Orders() {
        fresh();
        faultOfOrders("", 0);
        faultOfOrders("   ", 3);
        faultOfOrders("put 1", 5);
        faultOfOrders("put 1 to 2", 6);
        faultOfOrders("grow 1 of 2", 7);
        faultOfOrders("put 1 of", 8);
        faultOfOrders("drop", 4);
        faultOfOrders("drop 1 2", 7);
        faultOfOrders("mend 1", 5);
        faultOfOrders("mend if 1 = 1 times 2", 14);
        faultOfOrders("mend times 0", 11);
        faultOfOrders("mend times 21", 11);
        faultOfOrders("mend times time", 11);
        faultOfOrders("mend times 1 + 1", 13);
        faultOfOrders("mend times", 10);
        faultOfOrders("mend times 2 times 2", 13);
        faultOfOrders("drop free", 9);
        faultOfOrders("drop free 8", 10);
        faultOfOrders("drop promise done", 13);
        faultOfOrders("drop size", 5);
        faultOfOrders("drop page", 5);
        faultOfOrders("leaves 1", 0);
        faultOfOrders("mend;", 5);
        faultOfOrders("drop 1001", 5);
        due("orders", orders("mend times 20"), 20);
        due("fault", x.fault(), -1);
        due("orders", orders("mend times 0001 if free 007 = 64"), 1);
        faultOfOrders("mend times x", 11);
        law("bars");
        due("the latest one's", x.fault(), -1);
    }

    private static void p07Limits() {
        fresh();
        due("12 clauses", orders(many("mend", ";", 12)), 12);
        faultOfOrders(many("mend", ";", 13), 60);
        faultOfOrders(many("mend", ";", 12) + "; x", 61);
        faultOfOrders(many("mend", ";", 12) + ";", 60);
        due("12 clauses", law(many("bars", ";", 12)), 0);
        faultOfLaw(many("bars", ";", 12) + ";  bars", 62);
        due("50 parts", law("leaves " + many("1", "+", 50)), 1);
        faultOfLaw("leaves " + many("1", "+", 51), 107);
        faultOfLaw("leaves " + many("1", "+", 25) + ";leaves " + many("1", "+", 26), 7 + 49 + 8 + 50);
        faultOfLaw("leaves " + many("page", "+", 51), 7 + 250);
        due("50 words", law("bars if " + many("page", "+", 49) + "<1"), 2);
        due("P and TIMES aside", orders("mend times 2 if " + many("free 1", "+", 49) + " > 0"), 2);
        faultOfOrders("mend times 2 if " + many("free 1", "+", 50) + " > 0", 16 + 350 + 2 - 1 + 1);
        due("8 brackets", law("leaves " + many("[", "", 8) + "1" + many("]", "", 8)), 3);
        faultOfLaw("leaves " + many("[", "", 9) + "1" + many("]", "", 9), 15);
        due("8 brackets", law("bars if " + many("(", "", 8) + "1=1" + many(")", "", 8)), 4);
        faultOfLaw("bars if " + many("(", "", 9) + "1=1" + many(")", "", 9), 16);
        due("of both kinds", law("bars if " + many("(", "", 5) + "[[[1]]]=1" + many(")", "", 5)), 5);
        fresh();
        faultOfLaw("bars if " + many("(", "", 5) + "[[[[1]]]]=1" + many(")", "", 5), 16);
        faultOfLaw("bars if " + many("(", "", 5) + "1=[[[[1]]]]" + many(")", "", 5), 18);
        due("8 in the second sum", orders("put 1 of [[[[[[[[1]]]]]]]] times 2 if [[[[[[[[1]]]]]]]]=[[[[[[[[1]]]]]]]]"), 2);
        due("8 again behind 8", law("leaves [[[[[[[[1]]]]]]]] + [[[[[[[[1]]]]]]]]"), 0);
        due("400 bytes", law("bars" + many(" ", "", 396)), 1);
        faultOfLaw(many(" ", "", 400), 400);
        faultOfLaw("bars if " + many("not", " ", 98), 399);
        faultOfLaw(many("(", "", 400), 0);
        faultOfLaw("leaves 1" + many(" ", "", 390) + "+", 399);
    }

    private static void p08() {
        fresh();
        due("ahead of any", x.stopped(), -1);
        due("orders", orders("mend; mend; drop 5; drop 6"), -3);
        due("stopped", x.stopped(), 2);
        due("orders", orders("mend; put 1"), -6);
        due("stopped", x.stopped(), -1);
        due("orders", orders("drop 5"), -3);
        due("stopped", x.stopped(), 0);
        law("drop 5");
        x.mend();
        x.image(0);
        x.back(0);
        due("others leave it", x.stopped(), 0);
        due("orders", orders("mend"), 1);
        due("stopped", x.stopped(), -1);
        due("orders", orders(many("mend", ";", 11) + ";put 1 of 1 times 20; mend"), -6);
        due("orders", orders(many("mend", ";", 10) + ";put 1 of 1 times 20; drop 1 times 2"), -3);
        due("the second time", x.stopped(), 11);
    }

    private static void p09() {
        fresh();
        due("force", x.force(-1), -1);
        int[] wrong = {0, 1, -2, MIN, MAX};
        for (int w : wrong) {
            due("force(" + w + ")", x.force(w), -2);
            due("status", x.status(), -2);
        }
        due("count 8", x.count(8), wrong.length);
        law("bars");
        law("leaves 1");
        x.mend();
        due("force", x.force(1), -1);
        due("count 12", x.count(12), 1);
        due("force", x.force(0), 1);
        due("status", x.status(), 0);
        due("barred", x.search(0), -1);
        due("put", put(1, 1), -5);
        due("force", x.force(2), -2);
        due("stays", x.count(12), 0);
        due("force", x.force(-1), 0);
        due("none", x.search(0), 0);
        due("it leaves what can be undone", x.count(5), 1);
        x.force(0);
        x.undo();
        due("undo leaves it", x.count(12), 0);
    }

    private static void p10Short() {
        fresh();
        due("put nothing", x.put(), 0);
        due("a cell of no bytes at the end", x.slot(0, 0, 1), 64);
        due("size", x.slot(0, 0, 2), 0);
        due("put 40", put(40, 1), 1);
        due("begin", x.slot(0, 1, 1), 24);
        due("promise 20 / 8", x.page(0, 5), 2);
        due("put 8", put(8, 2), 2);
        due("17 by 8 is 2; 10 left", x.page(0, 2), 10);
        due("put 8 more: promise 1 is too little", put(8, 3), 16);
        due("put nothing", x.put(), 3);
        due("put nothing: free 8", x.put(), 4);
        due("put nothing: free 6, promise 0", x.put(), 17);
        due("put nothing", x.put(), 18);
        due("put nothing", x.put(), 19);
        due("tape", x.count(6), 0);
        due("status", x.status(), 0);
        due("count 5", x.count(5), 9);
        fresh();
        for (int i = 0; i < 96; i++) {
            due("put nothing", x.put(), 16 * (i / 12) + i % 12);
        }
        due("no slot left", x.put(), -5);
        due("status", x.status(), -5);
        due("count 10", x.count(10), 1);
        due("free", x.page(7, 2), 40);
        due("slot 12 is none", x.slot(7, 12, 0), -1);
        x.drop(37);
        due("an empty slot is taken again", x.put(), 37);
    }

    private static void p10Packed() {
        fresh();
        put(20, 1);
        put(20, 2);
        x.drop(0);
        due("promise stays", x.page(0, 5), 2);
        due("slot 0 is empty", x.slot(0, 0, 0), 0);
        due("free", x.page(0, 2), 40);
        due("gap", x.page(0, 3), 20);
        due("promise is too little", x.search(10), 0);
        due("promise is too little", x.search(15), 1);
        x.mend();
        due("put 38: the 2 are asked even with an empty slot", x.search(39), 1);
        due("put 30, packed first", put(30, 3), 0);
        due("slot 1 went to the end", x.slot(0, 1, 1), 44);
        due("slot 0 is below it", x.slot(0, 0, 1), 14);
        due("promise", x.page(0, 5), 1);
        due("view", x.view(1), 20);
        due("sign", x.sign(19), 2);
        fresh();
        put(20, 1);
        put(10, 2);
        x.drop(0);
        x.mend();
        due("gap 30 is as much as it needs", put(30, 3), 0);
        due("not packed", x.slot(0, 1, 1), 34);
        due("below", x.slot(0, 0, 1), 4);
        fresh();
        put(20, 1);
        put(10, 2);
        put(0, 0);
        x.drop(0);
        x.drop(2);
        x.mend();
        due("directory ends with slot 1", x.page(0, 0), 2);
        due("put", put(30, 4), 0);
        fresh();
        put(30, 1);
        put(10, 2);
        x.drop(0);
        due("gap 20", x.page(0, 3), 20);
        x.mend();
        x.put();
        due("needs 18 with its 2: gap is 20 still", put(18, 5), 2);
        due("not packed", x.slot(0, 1, 1), 24);
        due("begin", x.slot(0, 2, 1), 6);
        x.undo();
        due("needs 19 and 2: packed first", put(19, 5), 2);
        due("packed", x.slot(0, 1, 1), 54);
        due("begin", x.slot(0, 2, 1), 35);
    }

    private static void p10Long() {
        fresh();
        due("put 41: a piece first, then the head", put(41, 9), 1);
        due("piece", x.slot(0, 0, 0), 5);
        due("2 + 3", x.slot(0, 0, 2), 5);
        due("last", x.slot(0, 0, 3), 255);
        due("last", x.slot(0, 0, 4), 255);
        due("head", x.slot(0, 1, 0), 4);
        due("40", x.slot(0, 1, 2), 40);
        due("address", x.slot(0, 1, 3), 0);
        due("address", x.slot(0, 1, 4), 0);
        due("view", x.view(1), 41);
        due("no record at the piece", x.view(0), -1);
        fresh();
        due("76: one full piece", put(76, 9), 16);
        due("full", x.slot(0, 0, 2), 40);
        fresh();
        due("77: two", put(77, 9), 16);
        due("2 + 1", x.slot(0, 0, 2), 3);
        due("the next one is full", x.slot(0, 1, 2), 40);
        due("it tells the last one", x.slot(0, 1, 4), 0);
        due("the head tells it", x.slot(1, 0, 4), 1);
        fresh();
        due("200: 12 and 40 on page 0, 40 on 1, 2, 3, 4", put(200, 8), 64);
        due("pieces", x.count(3), 5);
        due("2 + 10", x.slot(0, 0, 2), 12);
        due("piece", x.slot(3, 0, 0), 5);
        due("201", put(201, 1), -6);
        due("status", x.status(), -6);
        due("tape", x.count(6), 0);
        due("records", x.count(0), 1);
        due("200 again", put(200, 8), -5);
        due("all is as it was", x.page(6, 0), 0);
        due("promise, too", x.page(6, 5), 8);
        due("count 5", x.count(5), 1);
        due("201: asked ahead of -5", put(201, 1), -6);
        due("counts", 10 * x.count(11) + x.count(10), 21);
    }

    private static void p11Own() {
        fresh();
        due("none", rewrite(0, 3, 1), -2);
        due("none", rewrite(-1, 3, 1), -2);
        due("none", rewrite(MAX, 3, 1), -2);
        due("none", rewrite(MIN, 3, 1), -2);
        due("-2 is ahead of -6", rewrite(0, 201, 1), -2);
        due("tape", x.count(6), 0);
        put(10, 1);
        put(10, 2);
        put(10, 3);
        due("-6", rewrite(0, 201, 1), -6);
        due("tape", x.count(6), 0);
        due("as it was", x.view(0), 10);
        due("0", rewrite(0, 12, 9), 0);
        due("below the lowest", x.slot(0, 0, 1), 22);
        due("others stay", x.slot(0, 1, 1), 44);
        due("promise", x.page(0, 5), 3);
        due("0: nothing", rewrite(1, 0, 0), 0);
        due("of no bytes", x.slot(0, 1, 1), 22);
        due("packed first", rewrite(2, 38, 4), 0);
        due("own", x.slot(0, 0, 1), 52);
        due("of no bytes", x.slot(0, 1, 1), 52);
        due("own", x.slot(0, 2, 1), 14);
        due("all that is free, law or not", rewrite(1, 8, 4), 0);
        due("full", x.page(0, 2), 0);
        due("count 5", x.count(5), 7);
        due("status", x.status(), 0);
        rule("bars");
        due("its own page is not asked by law", rewrite(1, 7, 4), 0);
        due("another one is", rewrite(1, 9, 4), -5);
    }

    private static void p11Moved() {
        fresh();
        put(20, 1);
        put(36, 2);
        due("one hop", rewrite(0, 30, 5), 1);
        due("stub", x.slot(0, 0, 0), 2);
        due("stub bytes", x.slot(0, 0, 3), 0);
        due("stub bytes", x.slot(0, 0, 4), 16);
        due("moved", x.slot(1, 0, 0), 3);
        due("moved begins", x.slot(1, 0, 1), 34);
        due("view", x.view(0), 30);
        due("not its address", x.view(16), -1);
        due("not to be dropped", x.drop(16), -2);
        due("stubs", x.count(2), 1);
        due("records", x.count(0), 2);
        due("again: the moved cell leaves, its page promises too little", rewrite(0, 40, 6), 1);
        due("page 2", x.slot(2, 0, 2), 40);
        due("the stub tells it", x.slot(0, 0, 4), 32);
        due("page 1 is bare", x.page(1, 0), 0);
        due("one hop at most", x.pieces(0, 0), 2);
        due("fits again", rewrite(0, 24, 6), 0);
        due("page 2 is bare", x.page(2, 0), 0);
        due("stubs", x.count(2), 0);
        fresh();
        put(0, 0);
        put(40, 1);
        put(0, 0);
        rewrite(2, 18, 1);
        due("page 0 has 0 free", x.page(0, 2), 0);
        due("no room for a stub", rewrite(0, 1, 1), -5);
        due("as it was", x.page(1, 0), 0);
        due("as it was", x.view(0), 0);
        due("status", x.status(), -5);
        fresh();
        rule("bars if page > 0");
        put(10, 1);
        put(40, 1);
        due("nowhere else", rewrite(0, 30, 1), -5);
        due("as it was", x.slot(0, 0, 1), 54);
        due("count 5", x.count(5), 2);
    }

    private static void p11Long() {
        fresh();
        put(1, 1);
        due("a piece of 26 on its own page leaves too little for the head", rewrite(0, 100, 3), -5);
        due("as it was", x.view(0), 1);
        due("as it was", x.page(0, 5), 7);
        due("as it was", x.page(1, 0), 0);
        rule("bars if page = 0");
        due("long", rewrite(0, 100, 3), 2);
        due("head in its own slot", x.slot(0, 0, 0), 4);
        due("its pieces are elsewhere", x.pieces(0, 1), 3);
        due("view", x.view(0), 100);
        x.force(-1);
        due("long anew", rewrite(0, 41, 3), 2);
        due("a piece of 5 on its own page", x.slot(0, 1, 2), 5);
        due("on one page", x.pieces(0, 1), 1);
        due("free", x.page(0, 2), 64 - 4 - 45);
        due("short again", rewrite(0, 2, 3), 0);
        due("directory", x.page(0, 0), 1);
        due("promise", x.page(0, 5), 7);
        fresh();
        put(0, 0);
        put(24, 1);
        due("free 36", x.page(0, 2), 36);
        due("a head has no room", rewrite(0, 41, 1), -5);
        due("pieces are gone", x.count(3), 0);
        due("as it was", x.page(0, 0), 2);
    }

    private static void p11Kept() {
        fresh();
        put(5, 1);
        due("a piece of 21 leaves 39", rewrite(0, 57, 2), -5);
        due("a piece of 20 leaves 40", rewrite(0, 56, 2), 2);
        due("the piece does not come to slot 0", x.slot(0, 1, 0), 5);
        due("full", x.page(0, 2), 0);
        due("promise", x.page(0, 5), 0);
        fresh();
        put(40, 1);
        due("200: pieces of 12 and 40 on its own page", rewrite(0, 200, 2), -5);
        due("as it was", x.view(0), 40);
        rule("bars if page = 0 and size = 40");
        due("200: the piece of 12 alone", rewrite(0, 200, 2), 2);
        due("its last piece of 12 and its head", x.page(0, 2), 64 - 4 - 52);
        due("the head is below it", x.slot(0, 0, 1), 12);
        due("view", x.view(0), 200);
        due("201", rewrite(0, 201, 2), -6);
        fresh();
        for (int i = 0; i < 12; i++) {
            put(0, 0);
        }
        put(0, 0);
        due("the kept slot is none to come to", rewrite(3, 41, 1), 2);
        due("its piece lies on page 1", x.slot(0, 3, 4), 17);
        due("head", x.slot(0, 3, 0), 4);
        fresh();
        put(31, 1);
        put(31, 1);
        due("page 1", x.scan(1), 16);
        due("the directory keeps the slot: 62 are free", rewrite(16, 40, 1), 0);
        due("begin", x.slot(1, 0, 1), 24);
    }

    private static void p12() {
        fresh();
        put(7, 1);
        put(100, 2);
        put(0, 0);
        int longOne = x.scan(x.count(0) - 1);
        due("drop", x.drop(0), 7);
        due("no cell of no record", x.drop(0), -2);
        due("status", x.status(), -2);
        due("long", x.drop(longOne), 100);
        due("status", x.status(), 0);
        due("pieces", x.count(3), 0);
        due("promises stay", x.page(1, 5) < 8 ? 1 : 0, 1);
        due("undo", x.undo(), 2);
        due("again", x.view(longOne), 100);
        int[] wrong = {-1, 128, 127, 12, MIN, MAX};
        for (int w : wrong) {
            due("drop(" + w + ")", x.drop(w), -2);
        }
        due("count 8", x.count(8), 1 + wrong.length);
        fresh();
        put(1, 1);
        put(1, 1);
        put(1, 1);
        x.drop(1);
        due("directory", x.page(0, 0), 3);
        due("cells", x.page(0, 1), 2);
        x.drop(2);
        due("ends with the highest slot", x.page(0, 0), 1);
        due("free", x.page(0, 2), 61);
        due("promise stays", x.page(0, 5), 6);
        fresh();
        put(20, 1);
        put(36, 2);
        rewrite(0, 30, 5);
        due("stub and moved", x.drop(0), 30);
        due("moved left", x.page(1, 0), 0);
    }

    private static void p13() {
        fresh();
        due("bare", x.pack(7), 0);
        put(10, 1);
        put(20, 2);
        put(0, 0);
        put(5, 3);
        x.drop(0);
        due("waste", x.page(0, 4), 10);
        due("pack", x.pack(0), 10);
        due("waste", x.page(0, 4), 0);
        due("begin", x.slot(0, 1, 1), 44);
        due("begin", x.slot(0, 2, 1), 44);
        due("begin", x.slot(0, 3, 1), 39);
        due("promise", x.page(0, 5), 3);
        x.view(3);
        due("bytes came along", x.sign(4), 3);
        due("again", x.pack(0), 0);
        due("it can be undone", x.undo(), 3);
        due("it can be undone", x.undo(), 3);
        due("waste", x.page(0, 4), 10);
        int[] wrong = {-1, 8, MIN, MAX};
        for (int w : wrong) {
            due("pack(" + w + ")", x.pack(w), -1);
            due("status", x.status(), -1);
        }
        due("count 7", x.count(7), wrong.length);
        due("the lower slot lies higher", rewrite(1, 1, 9), 0);
        x.pack(0);
        due("slot 1", x.slot(0, 1, 1), 63);
        due("slot 3", x.slot(0, 3, 1), 58);
    }

    private static void p14() {
        fresh();
        due("mend", x.mend(), 0);
        put(30, 1);
        put(30, 1);
        put(30, 1);
        x.drop(0);
        x.drop(16);
        due("mend", x.mend(), 2);
        due("promise", x.page(0, 5), 3);
        due("promise", x.page(1, 5), 8);
        due("mend", x.mend(), 0);
        due("undo", x.undo(), 4);
        due("undo", x.undo(), 4);
        due("promise", x.page(0, 5), 0);
        due("promise", x.page(1, 5), 4);
    }

    private static void p15() {
        fresh();
        due("none", x.undo(), -3);
        due("status", x.status(), -3);
        for (int i = 0; i < 20; i++) {
            put(0, 0);
        }
        for (int i = 0; i < 16; i++) {
            due("undo", x.undo(), 0);
        }
        due("16 are kept", x.undo(), -3);
        due("4 stay", x.count(0), 4);
        due("count 9", x.count(9), 2);
        put(3, 1);
        rewrite(4, 4, 2);
        x.drop(4);
        x.pack(0);
        x.mend();
        put(150, 7);
        int[] kinds = {0, 4, 3, 2, 1, 0};
        for (int kind : kinds) {
            due("undo", x.undo(), kind);
            due("status", x.status(), 0);
        }
        due("refused ones are none", put(201, 1), -6);
        due("refused ones are none", x.drop(99), -2);
        due("none", x.undo(), -3);
        x.image(0);
        put(1, 1);
        x.back(0);
        due("nothing behind back", x.undo(), -3);
        put(1, 1);
        x.back(1);
        due("a refused back leaves it", x.undo(), 0);
        put(1, 1);
        x.image(0);
        due("an image leaves it", x.undo(), 0);
    }

    private static void p16() {
        fresh();
        put("abc");
        put(41, 200);
        due("view", x.view(0), 3);
        due("sign", x.sign(0), 'a');
        due("view", x.view(2), 41);
        due("sign", x.sign(40), 200);
        int[] wrong = {1, 15, 16, 17, -1, 128, MIN, MAX};
        for (int w : wrong) {
            due("view(" + w + ")", x.view(w), -1);
        }
        x.drop(0);
        due("dropped", x.view(0), -1);
        due("status untouched", x.status(), 0);
        due("not refused", x.count(8), 0);
    }

    private static void p17() {
        fresh();
        due("none yet", x.sign(0), -1);
        put("ab");
        put("xyz");
        x.view(1);
        due("sign", x.sign(2), 'z');
        x.view(0);
        due("sign", x.sign(1), 'b');
        due("behind", x.sign(2), -1);
        due("-1", x.sign(-1), -1);
        due("MIN", x.sign(MIN), -1);
        due("MAX", x.sign(MAX), -1);
        due("no record", x.view(5), -1);
        due("the latest that could be", x.sign(0), 'a');
        x.drop(0);
        due("as it was seen", x.sign(0), 'a');
        put(0, 0);
        due("none of no bytes", x.view(0), 0);
        due("sign", x.sign(0), -1);
        put(200, 255);
        x.view(x.scan(2));
        due("sign 199", x.sign(199), 255);
        due("sign 200", x.sign(200), -1);
    }

    private static void p18() {
        fresh();
        put(10, 1);
        put(5, 2);
        put(0, 0);
        x.drop(0);
        int[] want = {3, 2, 53, 43, 10, 5};
        for (int w = 0; w < 6; w++) {
            due("page(0, " + w + ")", x.page(0, w), want[w]);
        }
        int[][] wrong = {{-1, 0}, {8, 0}, {0, -1}, {0, 6}, {MIN, 0}, {MAX, 0}, {0, MIN}, {0, MAX}};
        for (int[] w : wrong) {
            due("page(" + w[0] + ", " + w[1] + ")", x.page(w[0], w[1]), -1);
        }
        fresh();
        due("gap of a bare page", x.page(3, 3), 64);
    }

    private static void p19() {
        fresh();
        put("pq");
        put("r");
        put("s");
        x.drop(1);
        int[][] want = {{1, 62, 2, 'p', 'q', -1}, {0, -1, -1, -1, -1, -1}, {1, 60, 1, 's', -1, -1}};
        for (int s = 0; s < 3; s++) {
            for (int w = 0; w < 6; w++) {
                due("slot(0, " + s + ", " + w + ")", x.slot(0, s, w), want[s][w]);
            }
        }
        int[][] wrong = {{0, 3, 0}, {0, -1, 0}, {-1, 0, 0}, {8, 0, 0}, {0, 0, -1}, {0, 0, MIN}, {0, 0, MAX}, {0, MIN, 0}, {0, MAX, 0},
            {MIN, 0, 0}, {MAX, 0, 0}, {1, 0, 0}, {0, 12, 0}};
        for (int[] w : wrong) {
            due("slot(" + w[0] + ", " + w[1] + ", " + w[2] + ")", x.slot(w[0], w[1], w[2]), -1);
        }
    }

    private static void p20() {
        fresh();
        for (int i = 1; i < 16; i++) {
            due("map(" + i + ")", x.map(i), 8);
        }
        put(40, 1);
        put(30, 1);
        put(35, 1);
        int[] want = {-1, 8, 8, 8, 4, 8, 8, 8, 2, 4, 3, 8, 8, 8, 8, 8, -1};
        for (int i = 0; i <= 16; i++) {
            due("map(" + i + ")", x.map(i), want[i]);
        }
        for (int i = 0; i < 5; i++) {
            put(40, 1);
        }
        due("root", x.map(1), 4);
        due("left", x.map(2), 4);
        due("right", x.map(3), 2);
        int[] wrong = {0, -1, 16, MIN, MAX};
        for (int w : wrong) {
            due("map(" + w + ")", x.map(w), -1);
        }
    }

    private static void p21() {
        fresh();
        int[] wrong = {-1, 41, MIN, MAX};
        for (int w : wrong) {
            due("search(" + w + ")", x.search(w), -1);
        }
        put(24, 1);
        due("promise 4", x.page(0, 5), 4);
        due("30: 39 by 8 is 4", x.search(30), 0);
        due("31: 40 by 8 is 5", x.search(31), 1);
        put(30, 2);
        due("free 6, promise 0", x.page(0, 2), 6);
        due("even 0 asks 1", x.search(0), 1);
        due("40", x.search(40), 1);
        fresh();
        for (int i = 0; i < 12; i++) {
            put(0, 0);
        }
        due("12 slots", x.search(0), 1);
        x.drop(5);
        due("an empty slot", x.search(0), 0);
        due("promise 40 by 8 is 5, 38 are fine", x.search(30), 0);
        due("but the promise", x.search(39), 1);
    }

    private static void p22() {
        fresh();
        due("none", x.scan(0), -1);
        put(40, 1);
        put(40, 2);
        put(3, 3);
        rewrite(1, 41, 4);
        due("scan(0)", x.scan(0), 0);
        due("scan(1)", x.scan(1), 1);
        due("scan(2)", x.scan(2), 16);
        due("scan(3)", x.scan(3), -1);
        int[] wrong = {-1, MIN, MAX, 96, 128};
        for (int w : wrong) {
            due("scan(" + w + ")", x.scan(w), -1);
        }
        fresh();
        put(20, 1);
        put(36, 2);
        rewrite(0, 30, 5);
        due("the stub's", x.scan(0), 0);
        due("the other's", x.scan(1), 1);
        due("not the moved one's", x.scan(2), -1);
    }

    private static void p23() {
        fresh();
        due("none", x.above(-1), -1);
        put(40, 1);
        put(40, 2);
        put(1, 2);
        due("above(MIN)", x.above(MIN), 0);
        due("above(-1)", x.above(-1), 0);
        due("above(0)", x.above(0), 1);
        due("above(1)", x.above(1), 16);
        due("above(16)", x.above(16), -1);
        due("above(MAX)", x.above(MAX), -1);
        due("above(127)", x.above(127), -1);
        due("above(128)", x.above(128), -1);
        for (int i = 0; i < 6; i++) {
            put(40, 1);
        }
        due("above(111)", x.above(111), 112);
    }

    private static void p24() {
        fresh();
        put(10, 1);
        due("one", x.pieces(0, 0), 1);
        due("one", x.pieces(0, 1), 1);
        put(50, 1);
        put(200, 1);
        int a = x.above(0);
        due("head and piece", x.pieces(a, 0), 2);
        due("two pages", x.pieces(a, 1), 2);
        due("six", x.pieces(x.above(a), 0), 6);
        int[][] wrong = {{0, 2}, {0, -1}, {0, MIN}, {0, MAX}, {-1, 0}, {1, 0}, {128, 0}, {MIN, 1}, {MAX, 1}};
        for (int[] w : wrong) {
            due("pieces(" + w[0] + ", " + w[1] + ")", x.pieces(w[0], w[1]), -1);
        }
        fresh();
        put(20, 1);
        put(36, 2);
        rewrite(0, 30, 5);
        due("a stub is one, too", x.pieces(0, 0), 2);
        due("on two pages", x.pieces(0, 1), 2);
        due("none of a moved one's", x.pieces(16, 0), -1);
        fresh();
        put(10, 1);
        rewrite(0, 41, 1);
        due("head and piece", x.pieces(0, 0), 2);
        due("on one page", x.pieces(0, 1), 1);
    }

    private static void p25() {
        fresh();
        due("none", x.sorted(0), -1);
        put("b");
        put("ab");
        put("a");
        put(1, 255);
        put("");
        put("a");
        put(1, 127);
        int[] want = {4, 2, 5, 1, 0, 6, 3};
        for (int i = 0; i < want.length; i++) {
            due("sorted(" + i + ")", x.sorted(i), want[i]);
        }
        int[] wrong = {7, -1, MIN, MAX};
        for (int w : wrong) {
            due("sorted(" + w + ")", x.sorted(w), -1);
        }
        fresh();
        put(60, 1);
        put(61, 1);
        put(59, 1);
        due("long ones", x.view(x.sorted(0)), 59);
        due("long ones", x.view(x.sorted(1)), 60);
        due("long ones", x.view(x.sorted(2)), 61);
    }

    private static void p26() {
        fresh();
        due("none", x.find(), -1);
        put("ab");
        put("ab");
        put("abc");
        put("");
        due("lowest", find("ab"), 0);
        due("tape", x.count(6), 0);
        due("just", find("abc"), 2);
        due("not a beginning", find("a"), -1);
        due("nothing", find(""), 3);
        due("not more", find("abcd"), -1);
        Tape.feed(x, Tape.row(400, 1));
        due("too long", x.find(), -1);
        due("tape", x.count(6), 0);
        due("status untouched", x.status(), 0);
        fresh();
        put(200, 5);
        Tape.feed(x, Tape.row(200, 5));
        due("200", x.find(), 64);
        int[] other = Tape.row(200, 5);
        other[199] = 6;
        Tape.feed(x, other);
        due("the last byte", x.find(), -1);
    }

    private static void p27() {
        fresh();
        int[] wrong = {-1, 201, MIN, MAX};
        for (int w : wrong) {
            due("fit(" + w + ")", x.fit(w), -1);
        }
        due("fit(0)", x.fit(0), 96);
        due("fit(40)", x.fit(40), 8);
        due("fit(41): a head on each page", x.fit(41), 8);
        due("fit(200)", x.fit(200), 1);
        due("on paper", x.count(0), 0);
        due("on paper", x.count(5), 0);
        rule("bars if page > 0");
        due("by law", x.fit(40), 1);
        due("a piece of 14 leaves 48, promise 6", x.fit(50), 1);
        due("a piece of 15 leaves 47, promise 5", x.fit(51), 0);
        rule("leaves 64");
        due("none", x.fit(0), 0);
        x.force(-1);
        put(40, 1);
        due("7 more", x.fit(40), 7);
        due("promise", x.page(0, 5), 2);
    }

    private static void p28() {
        fresh();
        for (int i = 0; i < 8; i++) {
            due("worst(" + i + ")", x.worst(i), i);
        }
        put(40, 1);
        put(40, 1);
        put(39, 1);
        put(10, 2);
        put(10, 2);
        put(10, 2);
        int[][] want = {{32, 2, 0, 1, 3}, {16, 1, 2, 0, 3}, {0, 0, 1, 2, 3}};
        for (int[] w : want) {
            due("drop", x.drop(w[0]) >= 39 ? 0 : 1, 0);
            for (int i = 0; i < 4; i++) {
                due("worst(" + i + ") behind drop " + w[0], x.worst(i), w[i + 1]);
            }
            due("worst(7)", x.worst(7), 7);
        }
        int[] wrong = {-1, 8, MIN, MAX};
        for (int w : wrong) {
            due("worst(" + w + ")", x.worst(w), -1);
        }
    }

    private static void p29() {
        fresh();
        due("few(1, 0)", x.few(1, 0), 1000000000000L);
        due("few(1, 1)", x.few(1, 1), 900000000000L);
        due("few(2, 1)", x.few(2, 1), 1000000000000L);
        due("few(1, 3)", x.few(1, 3), 729000000000L);
        due("few(2, 3)", x.few(2, 3), 972000000000L);
        due("cut: 0.9 to the 13th", x.few(1, 13), 254186582832L);
        due("cut: 0.9 to the 14th", x.few(1, 14), 228767924548L);
        int[][] wrong = {{0, 1}, {21, 1}, {1, -1}, {1, 100}, {MIN, 1}, {MAX, 1}, {1, MIN}, {1, MAX}};
        for (int[] w : wrong) {
            due("few(" + w[0] + ", " + w[1] + ")", x.few(w[0], w[1]), -1);
        }
        x.terms(1, 0);
        due("none slips", x.few(1, 99), 1000000000000L);
        x.terms(1, 10);
        due("all slip", x.few(20, 19), 1000000000000L);
        due("all slip", x.few(20, 20), 0);
        due("all slip", x.few(1, 1), 0);
        x.terms(1, 5);
        due("half", x.few(1, 2), 250000000000L);
        due("half", x.few(2, 2), 750000000000L);
        due("status untouched", x.status(), 0);
    }

    private static void p30() {
        fresh();
        law("bars if page < 3");
        law("leaves 64");
        due("by law 0", x.compare(0, 5), 3);
        due("by law 1", x.compare(1, 0), -1);
        due("none", x.compare(-1, 5), 0);
        x.force(0);
        due("none in place of it", x.compare(-1, 40), 0);
        due("that in force stays", x.search(40), 3);
        int[][] wrong = {{2, 0}, {-2, 0}, {0, -1}, {0, 41}, {MIN, 0}, {MAX, 0}, {-1, MIN}, {-1, MAX}, {6, 0}};
        for (int[] w : wrong) {
            due("compare(" + w[0] + ", " + w[1] + ")", x.compare(w[0], w[1]), -1);
        }
        due("status is that of force", x.status(), 0);
    }

    private static void p31() {
        fresh();
        int[][] wrong = {{-1, 1}, {1000001, 1}, {5, 0}, {5, 61}, {5, -1}, {MIN, 1}, {MAX, 1}, {5, MIN}, {5, MAX}};
        for (int[] w : wrong) {
            due("days(" + w[0] + ", " + w[1] + ")", x.days(w[0], w[1]), -1);
            due("status", x.status(), -1);
        }
        due("none kept", x.drawn(0, 0), -1);
        due("count 7", x.count(7), wrong.length);
        due("days", x.days(5, 1), 1);
        due("status", x.status(), 0);
        due("on paper", x.count(0), 0);
        due("nothing to undo", x.count(5), 0);
        due("edges", x.days(0, 1) >= 0 ? 0 : 1, 0);
        due("edges", x.days(1000000, 60) >= 0 ? 0 : 1, 0);
        // Seed 5 draws 17860 % 70 = 10 bytes, then s = 711919 % 256 = 239, 250050 % 128 = 66, 817867 % 8 = 3: put.
        rule("bars");
        due("where law bars nothing comes", x.days(5, 60), 0);
        x.force(-1);
        put(10, 1);
        due("what is there stays", x.days(5, 1), 2);
    }

    private static void p32() {
        fresh();
        due("none yet", x.drawn(0, 0), -1);
        x.days(5, 1);
        int[] want = {52, 6, 1};
        for (int w = 0; w < 3; w++) {
            due("drawn(0, " + w + ")", x.drawn(0, w), want[w]);
        }
        due("drawn(7, 0)", x.drawn(7, 0), 64);
        due("drawn(7, 1)", x.drawn(7, 1), 8);
        due("drawn(7, 2)", x.drawn(7, 2), 0);
        int[][] wrong = {{-1, 0}, {8, 0}, {0, -1}, {0, 3}, {MIN, 0}, {MAX, 0}, {0, MIN}, {0, MAX}};
        for (int[] w : wrong) {
            due("drawn(" + w[0] + ", " + w[1] + ")", x.drawn(w[0], w[1]), -1);
        }
        due("refused days", x.days(-1, 1), -1);
        put(40, 1);
        x.fit(0);
        x.image(0);
        x.back(0);
        due("the latest stay", x.drawn(0, 0), 52);
        x.days(5, 1);
        due("behind it", x.drawn(0, 0), 10);
    }

    private static void p33p34() {
        fresh();
        int[] wrong = {-1, 2, MIN, MAX};
        for (int w : wrong) {
            due("image(" + w + ")", x.image(w), -1);
            due("back(" + w + ")", x.back(w), -1);
        }
        due("back(0)", x.back(0), -2);
        due("count 7", x.count(7), 2 * wrong.length);
        due("count 8", x.count(8), 1);
        put("one");
        rule("leaves 3");
        x.terms(0, 5);
        x.terms(1, 6);
        x.terms(2, 7);
        due("image", x.image(1), 0);
        due("status", x.status(), 0);
        due("back(0)", x.back(0), -2);
        put("two");
        rewrite(0, 50, 1);
        law("bars");
        x.force(1);
        x.terms(0, 8);
        x.terms(1, 9);
        x.terms(2, 1);
        x.drop(99);
        x.view(0);
        x.days(5, 1);
        orders("drop 100");
        due("fault", law("leaves"), -6);
        Tape.feed(x, "tape");
        due("image", x.image(0), 0);
        due("back", x.back(1), 0);
        int[] want = {1, 3, 0, 0, 1, 0, 4, 8, 3, 1, 0, 1, 0, 5, 6, 7};
        for (int w = 0; w < 16; w++) {
            due("count(" + w + ")", x.count(w), want[w]);
        }
        due("fault stays", x.fault(), 6);
        due("stopped stays", x.stopped(), 0);
        due("the view stays", x.sign(0), 1);
        due("days stay", x.drawn(0, 0) >= 0 ? 0 : 1, 0);
        due("undo", x.undo(), -3);
        x.end(0);
        due("the law as it was", law("leaves 9"), 1);
        due("images stay", x.back(0), 0);
        due("two laws", x.count(4), 2);
        due("the second one bars", x.search(0), -1);
        due("long", x.view(0), 50);
        due("images stay", x.back(1), 0);
        due("view", x.view(0), 3);
        due("promises, too", x.page(0, 5), 7);
        fresh();
        x.image(0);
        rule("bars if page = 0");
        x.image(1);
        x.back(0);
        rule("bars if page < 5");
        x.back(1);
        due("its laws, not those of the same number", x.search(0), 1);
        x.back(0);
        due("none", x.compare(0, 0), -1);
        x.image(1);
        put("a");
        put("more");
        x.image(1);
        x.back(1);
        due("the latest of it", x.count(0), 2);
    }

    private static void p35() {
        fresh();
        put(10, 1);
        put(100, 1);
        put(36, 1);
        rewrite(0, 40, 1);
        due("records", x.count(0), 3);
        due("bytes", x.count(1), 176);
        due("stubs and pieces", 10 * x.count(2) + x.count(3), 10 * (x.pieces(0, 0) - 1) + 2);
        law("bars");
        due("laws", x.count(4), 1);
        due("undo", x.count(5), 4);
        x.feed(0, 0, 0, 0, 0);
        due("tape", x.count(6), 20);
        x.end(0);
        x.pack(9);
        x.drop(-1);
        x.drop(-1);
        for (int i = 0; i < 5; i++) {
            x.undo();
        }
        due("3 of undo", x.count(9), 1);
        due("1", x.count(7), 1);
        due("2", x.count(8), 2);
        x.force(0);
        x.put();
        due("5", x.count(10), 1);
        law("x");
        orders("x");
        due("6", x.count(11), 2);
        due("force", x.count(12), 0);
        x.search(-1);
        x.view(-1);
        x.compare(9, 9);
        x.end(-1);
        x.find();
        due("others are not refused", x.count(7) + x.count(8) + x.count(9) + x.count(10) + x.count(11), 7);
        x.terms(2, 4);
        due("mood", x.count(15), 4);
        int[] wrong = {-1, 16, MIN, MAX};
        for (int w : wrong) {
            due("count(" + w + ")", x.count(w), -1);
        }
    }

    private static void p36() {
        fresh();
        due("ahead of any", x.status(), 0);
        x.undo();
        due("undo", x.status(), -3);
        x.view(0);
        x.search(99);
        x.feed(1, 1, 1, 1, 1);
        x.end(0);
        x.find();
        x.count(0);
        x.page(9, 9);
        x.few(0, 0);
        x.fit(-1);
        x.compare(4, 4);
        x.fault();
        x.stopped();
        x.drawn(9, 9);
        due("others leave it", x.status(), -3);
        x.terms(0, 0);
        due("terms", x.status(), 0);
        x.terms(0, -1);
        due("terms", x.status(), -1);
        law("bars");
        due("law", x.status(), 0);
        law("");
        due("law", x.status(), -6);
        orders("mend");
        due("orders", x.status(), 0);
        orders("drop 0");
        due("orders", x.status(), -3);
        x.force(-1);
        due("force", x.status(), 0);
        x.force(9);
        due("force", x.status(), -2);
        x.put();
        due("put", x.status(), 0);
        x.rewrite(1);
        due("rewrite", x.status(), -2);
        x.rewrite(0);
        due("rewrite", x.status(), 0);
        x.drop(1);
        due("drop", x.status(), -2);
        x.drop(0);
        due("drop", x.status(), 0);
        x.pack(8);
        due("pack", x.status(), -1);
        x.pack(0);
        due("pack", x.status(), 0);
        x.days(0, 0);
        due("days", x.status(), -1);
        x.mend();
        due("mend", x.status(), 0);
        x.image(2);
        due("image", x.status(), -1);
        x.undo();
        due("undo", x.status(), 0);
        x.back(0);
        due("back", x.status(), -2);
        x.days(0, 1);
        due("days", x.status(), 0);
        x.back(2);
        due("back", x.status(), -1);
        x.image(0);
        due("image", x.status(), 0);
        x.drop(0);
        x.back(0);
        due("back", x.status(), 0);
    }

    public static void main(String[] args) {
        run("promise 1: a new object", PromiseTests::p01);
        run("promise 2: terms", PromiseTests::p02);
        run("promise 3: feed", PromiseTests::p03);
        run("promise 4: end", PromiseTests::p04);
        run("promise 5: law, its number", PromiseTests::p05Numbers);
        run("promise 5: law, what it asks", PromiseTests::p05Meaning);
        run("promise 5: law, what is broken", PromiseTests::p05Broken);
        run("promise 6: orders", PromiseTests::p06Ordinary);
        run("promise 6: orders that can't be", PromiseTests::p06CantBe);
        run("promise 6: orders and what can be undone", PromiseTests::p06UndoKept);
        run("promise 7: fault of laws", PromiseTests::p07Laws);
        run("promise 7: fault of orders", PromiseTests::p07Orders);
        run("promise 7: fault at the limits", PromiseTests::p07Limits);
        run("promise 8: stopped", PromiseTests::p08);
        run("promise 9: force", PromiseTests::p09);
        run("promise 10: put, short", PromiseTests::p10Short);
        run("promise 10: put, packed first", PromiseTests::p10Packed);
        run("promise 10: put, long", PromiseTests::p10Long);
        run("promise 11: rewrite, its own slot", PromiseTests::p11Own);
        run("promise 11: rewrite, one hop", PromiseTests::p11Moved);
        run("promise 11: rewrite, long", PromiseTests::p11Long);
        run("promise 11: rewrite, the slot that is kept", PromiseTests::p11Kept);
        run("promise 12: drop", PromiseTests::p12);
        run("promise 13: pack", PromiseTests::p13);
        run("promise 14: mend", PromiseTests::p14);
        run("promise 15: undo", PromiseTests::p15);
        run("promise 16: view", PromiseTests::p16);
        run("promise 17: sign", PromiseTests::p17);
        run("promise 18: page", PromiseTests::p18);
        run("promise 19: slot", PromiseTests::p19);
        run("promise 20: map", PromiseTests::p20);
        run("promise 21: search", PromiseTests::p21);
        run("promise 22: scan", PromiseTests::p22);
        run("promise 23: above", PromiseTests::p23);
        run("promise 24: pieces", PromiseTests::p24);
        run("promise 25: sorted", PromiseTests::p25);
        run("promise 26: find", PromiseTests::p26);
        run("promise 27: fit", PromiseTests::p27);
        run("promise 28: worst", PromiseTests::p28);
        run("promise 29: few", PromiseTests::p29);
        run("promise 30: compare", PromiseTests::p30);
        run("promise 31: days", PromiseTests::p31);
        run("promise 32: drawn", PromiseTests::p32);
        run("promises 33 and 34: image, back", PromiseTests::p33p34);
        run("promise 35: count", PromiseTests::p35);
        run("promise 36: status", PromiseTests::p36);
        check.close();
    }
}
