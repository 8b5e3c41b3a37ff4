/** One case for each sentence of the document's terms I and III that names a bound of what stands on the pages. */
public final class PageBoundTests extends Bench {
    private static void cell(String what, int address, int kind, int begin, int size) {
        due(what + ": kind", x.slot(address / 16, address % 16, 0), kind);
        due(what + ": begins", x.slot(address / 16, address % 16, 1), begin);
        due(what + ": size", x.slot(address / 16, address % 16, 2), size);
    }

    private static void directory() {
        for (int p = 0; p < 8; p++) {
            due("none at first", x.page(p, 0), 0);
            due("none at first", x.slot(p, 0, 0), -1);
        }
        for (int i = 0; i < 96; i++) {
            due("put " + i, x.put(), i / 12 * 16 + i % 12);
        }
        due("12 at most", x.page(0, 0), 12);
        due("the twelfth", x.slot(7, 11, 0), 1);
        due("there is no thirteenth", x.slot(7, 12, 0), -1);
        due("2 bytes each", x.page(7, 2), 64 - 24);
        due("no slot for one more", x.put(), -5);
    }

    private static void shortSizes() {
        due("put nothing", x.put(), 0);
        cell("nothing", 0, 1, 64, 0);
        due("put 40", put(40, 1), 1);
        cell("40", 1, 1, 24, 40);
        fresh();
        due("put 41", put(41, 1), 1);
        cell("41's piece", 0, 5, 59, 5);
        cell("41's head", 1, 4, 19, 40);
    }

    /** How many bytes, then its address, how many cells, on how many pages, how many bytes its last piece has. */
    private static void longSizes() {
        int[][] all = {{41, 1, 2, 1, 5}, {75, 16, 2, 2, 39}, {76, 16, 2, 2, 40}, {77, 16, 3, 2, 3}, {114, 32, 3, 3, 40}, {115, 32, 4, 3, 3},
            {152, 48, 4, 4, 40}, {153, 48, 5, 4, 3}, {190, 64, 5, 5, 40}, {191, 64, 6, 5, 3}, {199, 64, 6, 5, 11}, {200, 64, 6, 5, 12}};
        for (int[] one : all) {
            fresh();
            int[] bytes = mixed(one[0]);
            Tape.feed(x, bytes);
            due("put " + one[0], x.put(), one[1]);
            due("cells of " + one[0], x.pieces(one[1], 0), one[2]);
            due("pages of " + one[0], x.pieces(one[1], 1), one[3]);
            due("last piece of " + one[0], x.slot(0, 0, 2), one[4]);
            due("head of " + one[0], x.slot(one[1] / 16, one[1] % 16, 2), 40);
            seen("" + one[0], one[1], bytes);
        }
        fresh();
        due("201", put(201, 1), -6);
        due("nothing came", x.page(0, 0), 0);
    }

    private static void pieceLinks() {
        int[] bytes = mixed(115);
        Tape.feed(x, bytes);
        due("put", x.put(), 32);
        int[][] links = {{0, 0, 255, 255, 114}, {0, 1, 0, 0, 76}, {1, 0, 0, 1, 38}, {2, 0, 0, 16, 0}};
        for (int[] l : links) {
            due("first byte of the next one's address", x.slot(l[0], l[1], 3), l[2]);
            due("second byte of the next one's address", x.slot(l[0], l[1], 4), l[3]);
            due("first byte of its own", x.slot(l[0], l[1], 5), bytes[l[4]]);
        }
    }

    private static void addressBytes() {
        put(20, 1);
        put(36, 2);
        rule("bars if page < 7");
        for (int i = 0; i < 11; i++) {
            due("put nothing", x.put(), 112 + i);
        }
        due("the highest address there is", rewrite(0, 30, 5), 1);
        cell("stub", 0, 2, x.slot(0, 0, 1), 2);
        due("0", x.slot(0, 0, 3), 0);
        due("then it", x.slot(0, 0, 4), 123);
        due("moved", x.slot(7, 11, 0), 3);
        seen("by the stub", 0, Tape.row(30, 5));
        fresh();
        rule("bars if page < 1");
        put(20, 1);
        put(36, 2);
        x.force(-1);
        due("the lowest address there is", rewrite(16, 30, 5), 1);
        due("0", x.slot(1, 0, 3), 0);
        due("then it", x.slot(1, 0, 4), 0);
        seen("by the stub", 16, Tape.row(30, 5));
        due("it leaves, too", x.drop(16), 30);
        due("page 0 is bare", x.page(0, 0), 0);
    }

    private static void ownAddress() {
        put(20, 1);
        put(36, 2);
        rewrite(0, 30, 5);
        put(41, 3);
        int[] own = {0, 1, x.scan(2)};
        due("three own addresses", x.scan(3), -1);
        due("a moved cell has none", x.view(16), -1);
        due("the head's is one", x.slot(own[2] / 16, own[2] % 16, 0), 4);
        int pieces = 0;
        for (int a = 0; a < 128; a++) {
            boolean is = a == own[0] || a == own[1] || a == own[2];
            check.holds("an own address " + a, x.view(a) >= 0 == is);
            pieces += x.slot(a / 16, a % 16, 0) == 5 ? 1 : 0;
        }
        due("a piece has none", pieces, 1);
    }

    private static void freeBounds() {
        due("bare", x.page(0, 2), 64);
        due("put 40", put(40, 1), 0);
        due("64 - 2 - 40", x.page(0, 2), 22);
        due("put 10", put(10, 2), 1);
        due("22 - 2 - 10", x.page(0, 2), 10);
        due("all of it", rewrite(1, 20, 3), 0);
        for (int w = 2; w < 6; w++) {
            due("FREE, GAP, WASTE, PROMISE are none", x.page(0, w), 0);
        }
        due("a full page", x.search(0), 1);
        x.drop(0);
        due("the slot stays, its bytes are free", x.page(0, 2), 40);
        x.drop(1);
        due("bare again", x.page(0, 2), 64);
    }

    private static void gapBounds() {
        due("without cells up to 64", x.page(0, 3), 64);
        x.put();
        due("a cell of no bytes at the end", x.page(0, 3), 62);
        put(10, 1);
        due("down to the lowest", x.page(0, 3), 50);
        x.put();
        due("a cell of no bytes, as low", x.page(0, 3), 48);
        x.drop(1);
        due("it is a cell as any: the lowest", x.page(0, 3), 48);
        x.drop(2);
        due("the one at the end is left", x.page(0, 3), 62);
        x.drop(0);
        due("without cells", x.page(0, 3), 64);
        for (int i = 0; i < 12; i++) {
            x.put();
        }
        due("a full directory of cells of no bytes", x.page(0, 3), 40);
    }

    private static void wasteBounds() {
        due("bare", x.page(0, 4), 0);
        put(40, 1);
        put(14, 2);
        due("none is wasted yet", x.page(0, 4), 0);
        x.drop(0);
        due("FREE less GAP", x.page(0, 4), 46 - 6);
        x.drop(1);
        due("bare", x.page(0, 4), 0);
    }

    private static void promiseBounds() {
        int[][] all = {{0, 7}, {6, 7}, {7, 6}, {14, 6}, {15, 5}, {22, 5}, {23, 4}, {30, 4}, {31, 3}, {38, 3}, {39, 2}, {40, 2}};
        for (int[] one : all) {
            fresh();
            due("8 at first", x.page(0, 5), 8);
            put(one[0], 1);
            due("FREE by 8, cut, with " + one[0], x.page(0, 5), one[1]);
            x.drop(0);
            due("it stays when a cell leaves", x.page(0, 5), one[1]);
        }
    }

    private static void promiseAnew() {
        put(40, 1);
        put(40, 1);
        x.drop(0);
        x.drop(16);
        due("too little", x.page(0, 5), 2);
        put(5, 1);
        due("placed: 57 by 8", x.page(0, 5), 7);
        due("that page alone", x.page(1, 5), 2);
        x.drop(0);
        due("it stays", x.page(0, 5), 7);
        x.pack(1);
        due("packed", x.page(1, 5), 8);
        due("that page alone", x.page(0, 5), 7);
        x.mend();
        due("mended", x.page(0, 5), 8);
        put(20, 1);
        put(36, 1);
        rewrite(0, 30, 1);
        due("the page of the moved cell", x.page(1, 5), 4);
        due("the page of the stub", x.page(0, 5), 2);
        rewrite(0, 1, 1);
        due("the page where it lies again", x.page(0, 5), 2);
        due("the page that it left", x.page(1, 5), 4);
    }

    private static void mapBounds() {
        rule("bars if page < time");
        int[] sizes = {0, 7, 15, 23, 31, 39};
        for (int p = 0; p < 6; p++) {
            x.terms(0, p);
            due("put on page " + p, put(sizes[p], 1), 16 * p);
        }
        x.terms(0, 6);
        put(40, 1);
        put(6, 1);
        int[] nodes = {-1, 8, 7, 8, 7, 5, 3, 8, 7, 6, 5, 4, 3, 2, 1, 8, -1};
        for (int i = 0; i <= 16; i++) {
            due("node " + i, x.map(i), nodes[i]);
        }
        x.terms(0, 7);
        put(40, 1);
        put(14, 1);
        int[] then = {-1, 7, 7, 3, 7, 5, 3, 1, 7, 6, 5, 4, 3, 2, 1, 0, -1};
        for (int i = 0; i <= 16; i++) {
            due("node then " + i, x.map(i), then[i]);
        }
    }

    private static void refusedBy() {
        due("-2 ahead of -6", rewrite(0, 201, 1), -2);
        due("-1 ahead of -2", x.back(2), -1);
        for (int i = 0; i < 6; i++) {
            law("bars");
        }
        due("-5 ahead of -6", law("x"), -5);
        x.force(0);
        due("-6, as put() tells", put(201, 1), -6);
        due("-5", put(200, 1), -5);
        x.force(-1);
        put(1, 1);
        x.force(0);
        due("-6, as rewrite() tells", rewrite(0, 201, 1), -6);
        due("-5", rewrite(0, 100, 1), -5);
    }

    private static void lowestEmptySlot() {
        for (int i = 0; i < 5; i++) {
            put(1, i);
        }
        x.drop(3);
        x.drop(1);
        due("the lowest", put(1, 9), 1);
        due("the next one", put(1, 9), 3);
        due("then one more", put(1, 9), 5);
        due("six", x.page(0, 0), 6);
    }

    private static void oneMoreSlot() {
        put(3, 1);
        put(3, 1);
        due("2 for each", x.page(0, 2), 64 - 10);
        x.drop(0);
        due("the slot stays", x.page(0, 2), 64 - 7);
        put(3, 1);
        due("an empty one needs no 2", x.page(0, 2), 64 - 10);
        put(3, 1);
        due("one more does", x.page(0, 2), 64 - 15);
    }

    private static void packedForOneMore() {
        put(30, 1);
        put(10, 2);
        x.drop(0);
        x.mend();
        x.put();
        due("GAP", x.page(0, 3), 20);
        due("18 and 2 are as much", put(18, 5), 2);
        cell("not packed", 1, 1, 24, 10);
        cell("below it", 2, 1, 6, 18);
        x.undo();
        due("19 and 2 are more", put(19, 5), 2);
        cell("packed", 0, 1, 64, 0);
        cell("packed", 1, 1, 54, 10);
        cell("below them", 2, 1, 35, 19);
        seen("its bytes came along", 1, Tape.row(10, 2));
    }

    private static void packedForAnEmptyOne() {
        put(20, 1);
        put(10, 2);
        x.drop(0);
        x.mend();
        due("GAP", x.page(0, 3), 30);
        due("30 are as much", put(30, 5), 0);
        cell("not packed", 1, 1, 34, 10);
        cell("below it", 0, 1, 4, 30);
        x.undo();
        due("31 are more", put(31, 5), 0);
        cell("packed", 1, 1, 54, 10);
        cell("below it", 0, 1, 23, 31);
        seen("its bytes came along", 1, Tape.row(10, 2));
    }

    private static void belowTheLowest() {
        x.put();
        cell("of no bytes, without cells", 0, 1, 64, 0);
        put(5, 1);
        cell("below it", 1, 1, 59, 5);
        x.put();
        cell("of no bytes, where one would begin", 2, 1, 59, 0);
        x.drop(1);
        put(3, 1);
        cell("below the one of no bytes", 1, 1, 56, 3);
        x.drop(0);
        x.drop(1);
        x.drop(2);
        put(3, 1);
        cell("without cells at the end", 0, 1, 61, 3);
    }

    private static void packedOrder() {
        put(3, 1);
        put(4, 2);
        put(5, 3);
        x.put();
        rewrite(0, 6, 4);
        cell("below all", 0, 1, 46, 6);
        due("WASTE was", x.pack(0), 3);
        cell("lower slots lie higher", 0, 1, 58, 6);
        cell("one below the other", 1, 1, 54, 4);
        cell("one below the other", 2, 1, 49, 5);
        cell("of no bytes, too", 3, 1, 49, 0);
        seen("slot 0", 0, Tape.row(6, 4));
        seen("slot 1", 1, Tape.row(4, 2));
        seen("slot 2", 2, Tape.row(5, 3));
        x.drop(1);
        x.pack(0);
        cell("an empty slot takes no place", 2, 1, 53, 5);
        due("it stays empty", x.slot(0, 1, 0), 0);
        String was = stand();
        due("packed twice", x.pack(0), 0);
        x.undo();
        same("packed twice", was);
    }

    private static void packedBytes() {
        put(1, 0);
        int[] bytes = mixed(20);
        Tape.feed(x, bytes);
        x.put();
        x.drop(0);
        due("to the end", x.pack(0), 1);
        cell("at the end", 1, 1, 44, 20);
        seen("at the end", 1, bytes);
        due("below it", put(5, 9), 0);
        due("none is wasted", x.pack(0), 0);
        cell("the lower slot lies higher", 0, 1, 59, 5);
        cell("below it", 1, 1, 39, 20);
        seen("its first and its last byte, too", 1, bytes);
        seen("the other one", 0, Tape.row(5, 9));
    }

    private static void cellLeaves() {
        for (int i = 0; i < 5; i++) {
            x.put();
        }
        x.drop(1);
        x.drop(3);
        due("the highest is there", x.page(0, 0), 5);
        due("two are empty", x.page(0, 1), 3);
        x.drop(4);
        due("past the empty one", x.page(0, 0), 3);
        due("no longer in it", x.slot(0, 3, 0), -1);
        x.drop(2);
        due("past the empty one", x.page(0, 0), 1);
        x.drop(0);
        due("none", x.page(0, 0), 0);
    }

    /** A page has all of it free, but promises less: how many bytes may come at most. */
    private static void searchPromise() {
        int[][] all = {{0, 40}, {14, 40}, {15, 38}, {22, 38}, {23, 30}, {30, 30}, {31, 22}, {38, 22}, {39, 14}, {40, 14}};
        for (int[] one : all) {
            fresh();
            put(one[0], 1);
            x.drop(0);
            due("so many behind " + one[0], x.search(one[1]), 0);
            due("one more behind " + one[0], x.search(one[1] + 1), one[1] < 40 ? 1 : -1);
        }
        fresh();
        put(40, 1);
        put(6, 1);
        x.drop(0);
        x.drop(1);
        due("promise 1", x.page(0, 5), 1);
        due("15 by 8", x.search(6), 0);
        due("16 by 8", x.search(7), 1);
        fresh();
        put(40, 1);
        put(14, 1);
        x.drop(0);
        x.drop(1);
        due("promise 0", x.page(0, 5), 0);
        due("9 by 8", x.search(0), 1);
    }

    private static void searchFree() {
        put(40, 1);
        put(4, 1);
        due("FREE", x.page(0, 2), 16);
        due("14 and 2 are all of it", x.search(14), 0);
        due("15 and 2 are not there", x.search(15), 1);
        law("leaves 1");
        due("1 is to be left of it", x.compare(0, 14), 1);
        due("1 is left of it", x.compare(0, 13), 0);
        due("put 14", put(14, 1), 2);
        due("none is left", x.page(0, 2), 0);
        fresh();
        x.put();
        put(20, 1);
        x.drop(0);
        due("an empty slot, FREE", x.page(0, 2), 40);
        law("leaves 28");
        due("10 and 2 leave 28", x.compare(0, 10), 0);
        due("2 less with an empty slot, too: 11 and 2 leave 27", x.compare(0, 11), 1);
    }

    private static void searchSlots() {
        for (int i = 0; i < 11; i++) {
            x.put();
        }
        due("fewer than 12", x.search(0), 0);
        x.put();
        due("12", x.search(0), 1);
        x.drop(4);
        due("an empty one", x.search(0), 0);
        x.undo();
        x.drop(11);
        due("fewer than 12", x.search(0), 0);
    }

    private static void searchLowest() {
        for (int p = 0; p < 8; p++) {
            due("the lowest page", x.search(15), p);
            put(40, 1);
        }
        due("none", x.search(15), -1);
        due("14 come", x.search(14), 0);
        x.drop(96);
        x.drop(48);
        x.mend();
        due("the lower one of two", x.search(15), 3);
    }

    private static void putShortCantBe() {
        for (int p = 0; p < 8; p++) {
            put(40, 1);
        }
        String was = stand();
        due("put 15", put(15, 1), -5);
        same("put 15", was);
        due("put 14", put(14, 1), 1);
    }

    private static void putLongCantBe() {
        rule("bars if page > 0");
        String was = stand();
        due("no room for the head: FREE 47", put(51, 1), -5);
        same("no room for the head", was);
        due("no room for a piece: FREE 22", put(91, 1), -5);
        same("no room for a piece", was);
        due("room for all: FREE 48", put(50, 1), 1);
        x.drop(1);
        rule("bars");
        was = stand();
        due("no room for the last piece", put(41, 1), -5);
        same("no room for the last piece", was);
        rule("bars if size = 5");
        was = stand();
        due("no room for the last piece, but for others", put(79, 1), -5);
        same("no room for the last piece, but for others", was);
        rule("bars if size = 40 and page > 1");
        was = stand();
        due("no room for a piece between", put(153, 1), -5);
        same("no room for a piece between", was);
    }

    private static void writtenWhole() {
        put(10, 1);
        put(40, 2);
        due("20 are FREE then", rewrite(0, 20, 3), 0);
        due("none is left", x.page(0, 2), 0);
        due("PROMISE anew", x.page(0, 5), 0);
        x.undo();
        due("21 are too many", rewrite(0, 21, 3), 1);
        due("a stub of 2", x.page(0, 2), 18);
        due("PROMISE anew", x.page(0, 5), 2);
        due("the law is not asked where it lies", law("bars"), 0);
        x.force(0);
        due("whole again", rewrite(0, 20, 4), 0);
        due("nothing", rewrite(0, 0, 4), 0);
        cell("nothing", 0, 1, 24, 0);
    }

    private static void writtenSizes() {
        int[][] all = {{0, 0, 1}, {1, 0, 1}, {40, 0, 1}, {41, 2, 2}, {76, 2, 2}, {77, 2, 3}, {199, 2, 6}, {200, 2, 6}};
        for (int[] one : all) {
            fresh();
            put(3, 1);
            rule("bars if page = 0");
            int[] bytes = mixed(one[0]);
            Tape.feed(x, bytes);
            due("rewrite " + one[0], x.rewrite(0), one[1]);
            due("cells", x.pieces(0, 0), one[2]);
            seen("" + one[0], 0, bytes);
            due("again with 3", rewrite(0, 3, 5), 0);
            due("one cell", x.pieces(0, 0), 1);
        }
        String was = stand();
        due("201", rewrite(0, 201, 1), -6);
        same("201", was);
    }

    private static void writtenPackedFirst() {
        put(30, 1);
        put(10, 2);
        due("20 are as many as GAP", rewrite(0, 20, 3), 0);
        cell("not packed", 1, 1, 24, 10);
        cell("below it", 0, 1, 4, 20);
        x.undo();
        due("21 are more", rewrite(0, 21, 3), 0);
        cell("packed", 1, 1, 54, 10);
        cell("below it", 0, 1, 33, 21);
        seen("its bytes came along", 1, Tape.row(10, 2));
        seen("written anew", 0, Tape.row(21, 3));
    }

    private static void stubNeeds2(int own, int due) {
        fresh();
        put(own, 1);
        put(40, 2);
        put(10, 3);
        rewrite(2, 64 - 6 - 40 - own, 3);
        due("full", x.page(0, 2), 0);
        String was = stand();
        due("FREE is " + own + " for the stub", rewrite(0, own + 1, 4), due);
        if (due < 0) {
            same("no room for a stub", was);
            seen("as it was", 0, Tape.row(own, 1));
            due("as many as before", rewrite(0, own, 4), 0);
        } else {
            due("full again", x.page(0, 2), own - 2);
            seen("one hop away", 0, Tape.row(own + 1, 4));
        }
    }

    private static void stubBounds() {
        stubNeeds2(0, -5);
        stubNeeds2(1, -5);
        stubNeeds2(2, 1);
        stubNeeds2(3, 1);
        fresh();
        put(20, 1);
        put(36, 2);
        rewrite(0, 30, 3);
        String was = stand();
        rule("bars");
        due("nowhere to move", rewrite(0, 25, 4), -5);
        due("it is there, one hop away", x.pieces(0, 1), 2);
        x.force(-1);
        due("24 come home", rewrite(0, 24, 4), 0);
        x.undo();
        check.holds("undone", was.substring(0, was.lastIndexOf('\n')).equals(stand().substring(0, was.lastIndexOf('\n'))));
    }

    private static void headNeeds40() {
        put(5, 1);
        String was = stand();
        due("a piece of 21 leaves 39", rewrite(0, 57, 2), -5);
        same("no room for the head", was);
        seen("as it was", 0, Tape.row(5, 1));
        due("a piece of 20 leaves 40", rewrite(0, 56, 2), 2);
        due("full", x.page(0, 2), 0);
        seen("long", 0, Tape.row(56, 2));
        due("promise", x.page(0, 5), 0);
        fresh();
        put(0, 0);
        put(20, 1);
        due("40 are FREE", x.page(0, 2), 40);
        due("a piece of 5 comes to its own page", rewrite(0, 41, 2), -5);
        rule("bars if page = 0");
        due("it comes to another one", rewrite(0, 41, 2), 2);
        due("full", x.page(0, 2), 0);
        fresh();
        rule("bars if page = 0 and slots > 1");
        put(0, 0);
        put(21, 1);
        due("39 are FREE", x.page(0, 2), 39);
        was = stand();
        due("a head needs 40", rewrite(0, 41, 2), -5);
        same("no room for the head", was);
    }

    private static void keptSlot() {
        put(40, 1);
        put(14, 2);
        due("the slot stays in the directory: 20 are FREE", rewrite(1, 20, 3), 0);
        x.undo();
        due("21 are too many", rewrite(1, 21, 3), 1);
        fresh();
        due("piece in slot 0, head in slot 1", put(41, 1), 1);
        due("all cells leave", rewrite(1, 3, 2), 0);
        due("the directory ends with the slot that is kept", x.page(0, 0), 2);
        due("slot 0 is empty", x.slot(0, 0, 0), 0);
        cell("at the end", 1, 1, 61, 3);
        due("long again", rewrite(1, 41, 2), 2);
        due("the piece does not come to slot 1", x.slot(0, 0, 0), 5);
        due("the head does", x.slot(0, 1, 0), 4);
        due("undo", x.undo(), 1);
        put(1, 9);
        due("slot 0 is taken", x.slot(0, 0, 2), 1);
        due("long", rewrite(0, 41, 5), 2);
        due("the piece has one slot more", x.slot(0, 2, 0), 5);
        due("short: it leaves from above the slot that is kept", rewrite(0, 2, 5), 0);
        due("two slots", x.page(0, 0), 2);
        x.drop(1);
        due("one slot", x.page(0, 0), 1);
    }

    private static void keptOfTwelve() {
        for (int i = 0; i < 13; i++) {
            x.put();
        }
        due("no other slot on its page", rewrite(3, 41, 1), 2);
        due("the piece lies on page 1", x.slot(0, 3, 4), 17);
        x.undo();
        x.drop(7);
        due("but an empty one", rewrite(3, 41, 1), -5);
        due("21 of 40 FREE are left for the head: nothing came", x.count(3), 0);
        fresh();
        for (int i = 0; i < 11; i++) {
            x.put();
        }
        due("11 slots: the piece of 5 comes to the twelfth, 35 are left", rewrite(3, 41, 1), -5);
        x.drop(10);
        x.drop(9);
        x.drop(8);
        x.drop(7);
        due("7 slots: the piece comes to an eighth, 43 are left", rewrite(3, 41, 1), 2);
        due("there", x.slot(0, 3, 4), 7);
    }

    private static void dropAll() {
        put(20, 1);
        put(36, 2);
        rewrite(0, 30, 5);
        put(200, 3);
        int longOne = x.scan(2);
        due("drop one of one hop", x.drop(0), 30);
        due("the moved cell left", x.count(2), 0);
        due("drop a long one", x.drop(longOne), 200);
        due("its pieces left", x.count(3), 0);
        due("one is left", x.count(0), 1);
        for (int p = 1; p < 8; p++) {
            due("page " + p + " is bare", x.page(p, 0), 0);
        }
        due("a record of nothing", x.put(), 0);
        due("drop it", x.drop(0), 0);
    }

    private static void mendAll() {
        due("nothing to mend", x.mend(), 0);
        for (int p = 0; p < 8; p++) {
            put(40, 1);
        }
        for (int p = 0; p < 8; p++) {
            x.drop(16 * p);
        }
        due("all promise too little", x.map(1), 2);
        due("all are others then", x.mend(), 8);
        due("all promise all", x.map(1), 8);
        due("none is another one then", x.mend(), 0);
    }

    public static void main(String[] args) {
        run("terms I: slots, 12 at most, none at first, 2 bytes each", PageBoundTests::directory);
        run("terms I: a record of 0 to 40 bytes, a long one of 41", PageBoundTests::shortSizes);
        run("terms I: a long record of 41 to 200 bytes, in the last piece what is left", PageBoundTests::longSizes);
        run("terms I: the address of the next piece, the last one 255 and 255", PageBoundTests::pieceLinks);
        run("terms I: an address in 2 bytes: 0, then it", PageBoundTests::addressBytes);
        run("terms I: a record's own address is that of its cell 1, 2 or 4", PageBoundTests::ownAddress);
        run("terms I: free, from 64 to 0", PageBoundTests::freeBounds);
        run("terms I: gap, without cells up to 64", PageBoundTests::gapBounds);
        run("terms I: waste, from 0", PageBoundTests::wasteBounds);
        run("terms I: promise, free by 8, cut; it stays when a cell leaves", PageBoundTests::promiseBounds);
        run("terms I: promise, anew when a cell is placed, packed, mended", PageBoundTests::promiseAnew);
        run("terms I: map, the greater one of two nodes", PageBoundTests::mapBounds);
        run("terms I: refused by the first of these in that order", PageBoundTests::refusedBy);
        run("terms III: placed in the lowest empty slot", PageBoundTests::lowestEmptySlot);
        run("terms III: or in one more, 2 bytes of free", PageBoundTests::oneMoreSlot);
        run("terms III: packed first if gap is less, with these 2", PageBoundTests::packedForOneMore);
        run("terms III: packed first if gap is less, in an empty slot", PageBoundTests::packedForAnEmptyOne);
        run("terms III: right below the lowest cell, one of no bytes is one as any", PageBoundTests::belowTheLowest);
        run("terms III: packed, those of lower slots higher", PageBoundTests::packedOrder);
        run("terms III: packed, all bytes come along", PageBoundTests::packedBytes);
        run("terms III: the directory ends with the highest slot that is not empty", PageBoundTests::cellLeaves);
        run("terms III: search, promise m and 9 by 8 at least", PageBoundTests::searchPromise);
        run("terms III: search, free less m less 2", PageBoundTests::searchFree);
        run("terms III: search, an empty slot or fewer than 12", PageBoundTests::searchSlots);
        run("terms III: search, the lowest page, or none", PageBoundTests::searchLowest);
        run("terms III: put, search tells none, all is as it was", PageBoundTests::putShortCantBe);
        run("terms III: put a long one, search tells none, all is as it was", PageBoundTests::putLongCantBe);
        run("terms III: written anew, free is as many at least", PageBoundTests::writtenWhole);
        run("terms III: written anew, up to 40 bytes, a long one of 41 to 200", PageBoundTests::writtenSizes);
        run("terms III: written anew, packed first", PageBoundTests::writtenPackedFirst);
        run("terms III: a stub, if free is 2 at least", PageBoundTests::stubBounds);
        run("terms III: a head, if free is 40 at least", PageBoundTests::headNeeds40);
        run("terms III: the slot is kept, empty, in the directory", PageBoundTests::keptSlot);
        run("terms III: no other cell comes to the slot that is kept", PageBoundTests::keptOfTwelve);
        run("terms III: to drop, all its cells leave", PageBoundTests::dropAll);
        run("terms III: to mend, all promises", PageBoundTests::mendAll);
        check.close();
    }
}
