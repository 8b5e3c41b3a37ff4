/** One case for each sentence of the document's terms II that names a bound of texts, laws and orders. */
public final class TextBoundTests extends Bench {
    private static final String MOST = "1000*1000*1000";

    private static void so(String test) {
        due("so: " + test, orders("mend if " + test), 1);
    }

    private static void notSo(String test) {
        due("not so: " + test, orders("mend if " + test), 0);
        due("not so, nor broken: " + test, orders("mend if not (" + test + ")"), 1);
    }

    private static void broken(String test) {
        due("broken: " + test, orders("mend if " + test), 0);
        due("broken, turned: " + test, orders("mend if not (" + test + ")"), 0);
    }

    /** It can be read, whatever comes of it. */
    private static void reads(String text) {
        check.holds("can be read: " + text, orders(text) != -6 && x.fault() == -1);
    }

    /** Where the one law that there is lets m bytes come. */
    private static void comes(String text, int m, int page) {
        fresh();
        due("law " + text, law(text), 0);
        due("where " + m + " come by " + text, x.compare(0, m), page);
    }

    private static void tapeBytes() {
        due("400", orders("mend" + many(" ", "", 396)), 1);
        due("400", orders(many(" ", "", 396) + "mend"), 1);
        faultOfOrders(many(" ", "", 397) + "men", 397);
        faultOfOrders("mend" + many(" ", "", 395) + "x", 399);
        faultOfOrders("mend" + many(" ", "", 395) + ";", 400);
        faultOfOrders(many(" ", "", 400), 400);
        faultOfOrders(many("m", "", 400), 0);
        faultOfOrders("drop " + many("0", "", 394) + "x", 399);
    }

    private static void tapeFull() {
        for (int i = 1; i <= 20; i++) {
            due("feed", x.feed(0x6d656e64, 0x3b202020, 0x20202020, 0x20202020, 0x20202020), 20 * i);
        }
        due("no more than 400", x.feed(0, 0, 0, 0, 0), -1);
        due("twenty clauses", x.orders(), -6);
        due("the thirteenth", x.fault(), 240);
        due("the tape is empty", x.count(6), 0);
    }

    private static void tokens() {
        faultOfOrders("mendif 1=1", 0);
        due("letters end where digits begin", orders("mend if1=1or2=2"), 1);
        due("digits end where letters begin", orders("put1of1"), 1);
        faultOfOrders("mend if 1 = 1 0", 14);
        faultOfOrders("mend if 1 == 1", 11);
        faultOfOrders("mend if 1 <> 1", 11);
        faultOfOrders("mend if 1 < = 1", 12);
        faultOfOrders("Mend", 0);
        faultOfOrders("menD", 0);
        faultOfOrders("m end", 0);
        for (int other : new int[] {0, 9, 10, 13, 31, 33, 44, 46, 47, 58, 64, 65, 90, 95, 96, 123, 127, 128, 160, 254, 255}) {
            fresh();
            faultOfOrders("mend" + (char) other, 4);
            faultOfOrders("mend times 1" + (char) other, 12);
            faultOfOrders((char) other + "mend", 0);
        }
    }

    private static void blanks() {
        due("none", orders("put 1of[1+1]times 2if(1=1)and not 1=2;mend"), 3);
        due("many", orders("   put   1   of   [  1  +  1  ]   times   2   if   (  1  =  1  )   ;   mend   "), 3);
        due("of laws, none", law("leaves 1if(page=1)and not 1=2;bars"), 0);
        due("of laws, many", law("   leaves   1   if   (  page  =  1  )   ;   bars   "), 1);
    }

    private static void clauses() {
        due("one", orders("mend"), 1);
        due("twelve", orders(many("mend", ";", 12)), 12);
        faultOfOrders(many("mend", ";", 13), 60);
        faultOfOrders(many("mend", ";", 12) + ";", 60);
        faultOfOrders(many("mend", ";", 12) + ";  ", 62);
        faultOfOrders(many("mend", ";", 12) + ";  ?", 62);
        faultOfOrders(many("mend", ";", 12) + " mend", 60);
        due("twelve", law(many("bars", " ; ", 12)), 0);
        faultOfLaw(many("bars", ";", 13), 60);
        faultOfLaw(many("bars", ";", 12) + ";", 60);
        faultOfLaw(";bars", 0);
        faultOfLaw("bars;;bars", 5);
    }

    private static void oneMeetsTheOther() {
        so("1=1 or 1=2 and 1=2");
        so("1=2 and 1=2 or 1=1");
        notSo("(1=1 or 1=2) and 1=2");
        notSo("1=2 and (1=2 or 1=1)");
        notSo("not 1=1 and 1=2");
        so("not 1=1 or 1=1");
        so("not (1=1 and 1=2)");
        so("not not 1=1");
        notSo("not not not 1=1");
        so("1=2 or 1=2 or 1=1");
        notSo("1=1 and 1=1 and 1=2");
        so("1=1 and 1=2 or 1=2 or 1=1 and 1=1");
    }

    private static void signs() {
        notSo("1<1");
        notSo("1>1");
        so("1=1");
        so("0<1");
        so("1>0");
        notSo("0=1");
        notSo("0>1");
        notSo("1<0");
        faultOfOrders("mend if 1<2<3", 11);
        faultOfOrders("mend if 1", 9);
        faultOfOrders("mend if (1)=1", 10);
        faultOfOrders("mend if [1=1]", 10);
    }

    private static void sums() {
        so("10-3-2=5");
        so("100/10/2=5");
        so("7%4*2=6");
        so("2*7%4=2");
        so("2+3*4=14");
        so("2*3+4=10");
        so("[2+3]*4=20");
        so("20-2*3-4=10");
        so("20-[2*[3-4]]=22");
        so("10-6/4*3%2=9");
        faultOfOrders("drop -1", 5);
        faultOfOrders("drop 1+", 7);
        faultOfOrders("drop 1+-1", 7);
        faultOfOrders("drop []", 6);
        faultOfOrders("drop (1)", 5);
        faultOfOrders("drop [1", 7);
        faultOfOrders("drop 1]", 6);
    }

    private static void numbers() {
        so("0=0");
        so("1000=999+1");
        faultOfOrders("drop 1001", 5);
        so("0001000=1000");
        so(many("0", "", 300) + "7=7");
        fresh();
        faultOfOrders("drop 0001001", 5);
        faultOfOrders("drop 10000", 5);
        faultOfOrders("drop 2147483648", 5);
        faultOfOrders("drop 4294967296", 5);
        faultOfOrders("drop 4294967297", 5);
        faultOfOrders("drop 18446744073709551616", 5);
        faultOfOrders("drop 18446744073709551617", 5);
        faultOfOrders("drop " + many("9", "", 395), 5);
    }

    private static void parts() {
        reads("drop " + many("1", "+", 50));
        faultOfOrders("drop " + many("1", "+", 51), 105);
        reads("drop " + many("time", "+", 50));
        faultOfOrders("drop " + many("time", "+", 51), 255);
        reads("drop " + many("free 0", "+", 50));
        faultOfOrders("drop " + many("free 0", "+", 51), 355);
        reads("drop " + many("[1]", "+", 50));
        faultOfOrders("drop " + many("[1]", "+", 51), 206);
        fresh();
        reads("drop " + many("1", "+", 50) + " times 20");
        faultOfOrders("drop " + many("1", "+", 50) + " times 20 if 1 = 1", 5 + 99 + 13);
        reads(many("drop 1 times 9", ";", 12));
        reads("put " + many("1", "+", 25) + " of " + many("1", "+", 25));
        faultOfOrders("put " + many("1", "+", 25) + " of " + many("1", "+", 26), 4 + 49 + 4 + 50);
        faultOfOrders("drop " + many("1", "+", 50) + "; drop 1", 5 + 99 + 7);
        faultOfOrders("drop " + many("1", "+", 49) + "+x+1", 5 + 98);
        faultOfLaw("leaves " + many("1", "+", 49) + " if page = 1", 7 + 97 + 4 + 7);
        due("50", law("leaves " + many("1", "+", 48) + " if page = 1"), 0);
    }

    private static void brackets() {
        due("8 of sums", law("leaves " + many("[", "", 8) + "1" + many("]", "", 8)), 0);
        faultOfLaw("leaves " + many("[", "", 9) + "1" + many("]", "", 9), 15);
        due("8 of tests", law("bars if " + many("(", "", 8) + "1=1" + many(")", "", 8)), 1);
        faultOfLaw("bars if " + many("(", "", 9) + "1=1" + many(")", "", 9), 16);
        due("7 and 1", law("bars if " + many("(", "", 7) + "[1]=[1]" + many(")", "", 7)), 2);
        due("1 and 7", law("bars if (1=[[[[[[[1]]]]]]])"), 3);
        faultOfLaw("bars if " + many("(", "", 8) + "[1]=1" + many(")", "", 8), 16);
        faultOfLaw("bars if " + many("(", "", 8) + "1=[1]" + many(")", "", 8), 18);
        faultOfLaw("bars if (1=[[[[[[[[1]]]]]]]])", 18);
        due("not within one another", law("leaves " + many("[[[[[[[[1]]]]]]]]", "+", 5)), 4);
        due("8 of each sum", orders("put [[[[[[[[1]]]]]]]] of [[[[[[[[1]]]]]]]] if [[[[[[[[1]]]]]]]]=[[[[[[[[1]]]]]]]]"), 1);
        faultOfOrders("put 1 of " + many("[", "", 9) + "1" + many("]", "", 9), 17);
        faultOfOrders("mend if 1=" + many("[", "", 9) + "1" + many("]", "", 9), 18);
        due("not counts none", law("bars if not " + many("(", "not ", 8) + "1=1" + many(")", "", 8)), 5);
    }

    private static void faults() {
        faultOfLaw("", 0);
        faultOfLaw(" ", 1);
        faultOfLaw("leaves", 6);
        faultOfLaw("leaves   ", 9);
        faultOfLaw("leaves 1 if page", 16);
        faultOfLaw("leaves 1 if page  ", 18);
        faultOfLaw("  x  ", 2);
        faultOfLaw("bars bars", 5);
        faultOfLaw("leaves 1 if page = 1 x", 21);
        faultOfLaw("leaves 1 if page = 1 if", 21);
        faultOfLaw("leaves [1)", 9);
        faultOfLaw("bars if (1=1]", 12);
        faultOfLaw("leaves if", 7);
        faultOfLaw("leaves and", 7);
        faultOfLaw("bars and 1=1", 5);
        faultOfLaw("bars if 1=1 and", 15);
        faultOfLaw("bars if 1=1 or;", 14);
        faultOfLaw("bars if not", 11);
    }

    /** What stands behind the fault could go on where the bracket, the sum, the test around it ends. */
    private static void faultsWithin() {
        faultOfLaw("bars if (;bars", 9);
        faultOfLaw("bars if (or 1=1", 9);
        faultOfLaw("bars if (1=1 and and 1=1)", 17);
        faultOfLaw("bars if (1=1;bars", 12);
        faultOfLaw("bars if 1<;bars", 10);
        faultOfLaw("bars if 1<or 1=1", 10);
        faultOfLaw("bars if 1;bars", 9);
        faultOfLaw("bars if 1+<1", 10);
        faultOfLaw("leaves [;bars", 8);
        faultOfLaw("leaves [+1", 8);
        faultOfLaw("leaves [1;bars", 9);
        faultOfLaw("leaves [1+;bars", 10);
        faultOfLaw("leaves ;bars", 7);
        faultOfLaw("leaves 1*;bars", 9);
        fresh();
        faultOfOrders("put 1 to 2", 6);
        faultOfOrders("put 1 2", 6);
        faultOfOrders("put 1;mend", 5);
        faultOfOrders("put 1 of;mend", 8);
        faultOfOrders("put of 1", 4);
        faultOfOrders("grow 1 of 2", 7);
        faultOfOrders("grow 1 to;mend", 9);
        faultOfOrders("drop times 2", 5);
        faultOfOrders("pack if 1=1", 5);
        faultOfOrders("mend times;mend", 10);
        faultOfOrders("mend if;mend", 7);
        due("no law, no order came of it", x.count(4) + x.count(5), 0);
    }

    private static void wordsOfEach() {
        for (String word : new String[] {"page", "size", "free", "slots", "promise", "time", "mood"}) {
            fresh();
            due(word, law("leaves " + word), 0);
        }
        for (String word : new String[] {"done", "latest", "live", "leaves", "bars", "if", "times", "put"}) {
            fresh();
            faultOfLaw("leaves " + word, 7);
        }
        for (String word : new String[] {"time", "done", "latest", "live", "free 0", "free 7", "promise 0", "promise 7"}) {
            fresh();
            reads("drop " + word);
        }
        for (String word : new String[] {"page", "size", "slots", "mood", "drop", "of", "to", "times"}) {
            fresh();
            faultOfOrders("drop " + word, 5);
        }
    }

    private static void beyond() {
        so(MOST + "=" + MOST);
        broken(MOST + "+1>0");
        so("0-" + MOST + "<0");
        broken("0-" + MOST + "-1<0");
        broken(MOST + "*2/2>0");
        broken("[" + MOST + "+1]-1>0");
        broken(MOST + "*[0-2]<0");
        broken("0<" + MOST + "*1000*1000*1000*1000*1000*1000*1000");
        fresh();
        so(MOST + "-1+1=" + MOST);
        so("0-" + MOST + "+1-1<0");
        so(MOST + "*[0-1]<0");
        so(MOST + "-" + MOST + "-" + MOST + "<0");
    }

    private static void divided() {
        broken("1/0=0");
        broken("1%0=0");
        broken("0/0=0");
        broken("0%0=0");
        broken("0=1/[2-2]");
        so("0/5=0");
        so("7/2=3");
        so("[0-7]/2=0-3");
        so("7/[0-2]=0-3");
        so("[0-7]/[0-2]=3");
        fresh();
        so("7%2=1");
        so("[0-7]%2=0-1");
        so("7%[0-2]=1");
        so("[0-7]%[0-2]=0-1");
        so("6%3=0");
        so("1/2=0");
        so("[0-1]/2=0");
    }

    private static void asked() {
        so("1=1 or 1/0=1");
        broken("1=2 or 1/0=1");
        broken("1/0=1 or 1=1");
        notSo("1=2 and 1/0=1");
        broken("1=1 and 1/0=1");
        broken("1/0=1 and 1=2");
        so("1=2 and 1/0=1 or 1=1");
        broken("1=1 and 1/0=1 or 1=1");
        fresh();
        so("1=1 or 1/0=1 and 1=2");
        so("1=1 or 1=2 or 1/0=1");
        notSo("1=1 and 1=2 and 1/0=1");
        broken("1=2 or 1=1 and 1/0=1");
        so("(1=1 or 1/0=1) and 1=1");
        notSo("(1=2 and 1/0=1) or 1=2");
        broken("not 1/0=1");
        broken("(1/0=1 or 1=1) and 1=1");
    }

    private static void sixLaws() {
        for (int i = 0; i < 5; i++) {
            due("law", law("bars if page < " + i), i);
        }
        x.image(0);
        due("the sixth", law("bars"), 5);
        due("none more", law("bars"), -5);
        x.back(0);
        due("five again", x.count(4), 5);
        due("the sixth", law("bars if page < 5"), 5);
        due("none more", law("bars"), -5);
        due("it is another one", x.compare(5, 0), 5);
    }

    private static void noneInForce() {
        due("none at first", x.count(12), -1);
        law("bars");
        due("a law alone is not in force", x.search(40), 0);
        x.force(0);
        due("it is in force", x.search(40), -1);
        x.force(-1);
        due("no clause", x.search(40), 0);
    }

    private static void lawWords() {
        comes("bars if not page = 7", 0, 7);
        comes("bars if page = 0", 0, 1);
        comes("bars if size = 0", 0, -1);
        due("another size", x.compare(0, 1), 0);
        comes("bars if size = 40", 40, -1);
        due("another size", x.compare(0, 39), 0);
        comes("bars if free = 64", 0, -1);
        put(0, 0);
        due("62", x.compare(0, 0), 0);
        comes("bars if slots = 0", 0, -1);
        put(0, 0);
        due("one", x.compare(0, 0), 0);
        comes("bars if promise = 8", 0, -1);
        put(0, 0);
        due("7", x.compare(0, 0), 0);
        comes("bars if time = 999", 0, 0);
        x.terms(0, 999);
        due("999", x.compare(0, 0), -1);
        comes("bars if mood = 9", 0, 0);
        x.terms(2, 9);
        due("9", x.compare(0, 0), -1);
        comes("bars if slots = 12", 0, 0);
        for (int i = 0; i < 12; i++) {
            x.put();
        }
        x.drop(0);
        due("an empty slot is in the directory", x.compare(0, 0), 1);
        comes("bars if free = 50", 0, 0);
        put(20, 1);
        put(10, 2);
        x.drop(0);
        due("FREE, not GAP", x.compare(0, 0), 1);
        comes("bars if free = 30", 0, 0);
        put(20, 1);
        put(10, 2);
        x.drop(0);
        due("GAP", x.page(0, 3), 30);
        due("GAP is no FREE", x.compare(0, 0), 0);
        comes("bars if slots = 1", 0, 0);
        put(20, 1);
        put(10, 2);
        x.drop(0);
        due("slots, not cells", x.compare(0, 0), 0);
        comes("bars if promise = 2 and free = 64", 0, 0);
        put(40, 0);
        x.drop(0);
        due("PROMISE and FREE apart", x.compare(0, 0), 1);
    }

    private static void lawOfLongOnes() {
        rule("bars if size = 40");
        due("the head has 40", put(41, 1), -5);
        due("39 come", put(39, 1), 0);
        fresh();
        rule("bars if size = 5");
        due("the piece has 5", put(41, 1), -5);
        due("it has 6", put(42, 1), 1);
        fresh();
        rule("bars if free < 64 and size = 40");
        due("as all is then", put(41, 1), 16);
        due("the piece", x.slot(0, 0, 2), 5);
    }

    private static void leavesBounds() {
        comes("leaves 0", 40, 0);
        comes("leaves 22", 40, 0);
        comes("leaves 23", 40, -1);
        comes("leaves 62", 0, 0);
        comes("leaves 63", 0, -1);
        comes("leaves 64", 0, -1);
        comes("leaves 65", 0, -1);
        comes("leaves " + MOST, 0, -1);
        comes("leaves 0 - 1", 40, 0);
        comes("leaves 0 - " + MOST, 40, 0);
        comes("leaves 64 if page = 0; leaves 0 if page = 1", 40, 1);
        String[] none = {"leaves 0", "leaves 0 - 1", "leaves 0 - 64", "leaves 5 if 1 = 2", "bars if 1 = 2", "leaves 1 / 0"};
        for (String text : none) {
            fresh();
            put(40, 1);
            put(4, 1);
            law(text);
            due("16 are FREE, 14 come by " + text, x.compare(0, 14), 0);
        }
        fresh();
        put(40, 1);
        put(4, 1);
        law("leaves 1");
        due("1 is left of 16, if 13 come", x.compare(0, 13), 0);
        due("but not, if 14 come", x.compare(0, 14), 1);
    }

    private static void clauseHolds() {
        comes("leaves 64; leaves 0 if page = 2", 0, 2);
        comes("leaves 0; leaves 64 if page < 2", 0, 2);
        comes("leaves 64; leaves 1 / page", 0, 1);
        comes("leaves 64; leaves " + MOST + " * page", 0, 0);
        comes("leaves 64; leaves 0 if 1 / page > 0", 0, 1);
        comes("leaves 64; leaves 0 if not 1 / page = 5", 0, 1);
        comes("bars if 1 / page > 0", 0, 0);
        comes("bars if 1 / page = 0", 0, 0);
        comes("bars; leaves 0", 0, -1);
        comes("bars if page = 0; leaves 0; bars if page = 1", 0, 2);
        comes("bars if page = 0; bars if page = 1; bars if 1 = 2", 0, 2);
    }

    private static void times() {
        due("without: once", orders("mend"), 1);
        due("1", orders("mend times 1"), 1);
        due("20", orders("mend times 20"), 20);
        due("leading zeros", orders("mend times 0020"), 20);
        faultOfOrders("mend times 0", 11);
        faultOfOrders("mend times 00", 11);
        faultOfOrders("mend times 21", 11);
        faultOfOrders("mend times 4294967297", 11);
        faultOfOrders("mend times", 10);
        faultOfOrders("mend times done", 11);
        faultOfOrders("mend times [1]", 11);
        faultOfOrders("mend times 1+1", 12);
        faultOfOrders("mend if 1=1 times 2", 12);
        due("of each clause", orders("mend times 3; mend; mend times 2"), 6);
    }

    private static void pageWords() {
        put(40, 1);
        so("free 0 = 22 and promise 0 = 2");
        so("free 7 = 64 and promise 7 = 8");
        so("free 007 = 64");
        faultOfOrders("drop free 8", 10);
        faultOfOrders("drop promise 8", 13);
        faultOfOrders("drop free", 9);
        faultOfOrders("drop free + 1", 10);
        faultOfOrders("drop free [1]", 10);
        faultOfOrders("drop free live", 10);
        faultOfOrders("drop free 4294967296", 10);
        x.drop(0);
        so("free 0 = 64 and promise 0 = 2");
    }

    private static void ifAskedEachTime() {
        due("as long as it is so", orders("put 0 of 0 times 20 if live < 7"), 7);
        due("as done goes", orders("mend times 20 if done < 5; mend times 20 if done < 8"), 8);
        due("so again", orders("drop 0 times 2 if live = 7; put 0 of 0 times 2 if live = 6"), 2);
        due("broken: not run", orders("mend if 1 / 0 = 1; drop 99 if 1 / 0 = 1; mend"), 1);
        due("not so: what can't be is not run", orders("drop 99 if 1 = 2; put 201 of 256 if 1 = 2; drop 1 / 0 if 1 = 2"), 0);
        due("no clause could not be", x.stopped(), -1);
        due("asked ahead of each", orders("mend times 4 if 6 / [3 - done] > 0"), 3);
    }

    private static void orderWords() {
        due("latest 0", orders("mend if latest = 0; put 1 of 1; mend if latest = 0; drop latest; mend if latest = 0"), 4);
        so("done = 0");
        so("latest = 0 - 1");
        so("live = 0");
        due("done", orders("mend times 2; mend if done = 2; mend if done = 3; mend if done = 3"), 4);
        due("latest", orders("put 40 of 1 times 2; mend if latest = 16; drop latest; mend if latest = 16; grow 0 to 1; mend if latest = 16"), 7);
        so("latest = 0 - 1");
        so("live = 1");
        due("live", orders("put 41 of 1; mend if live = 2; grow 0 to 30; mend if live = 2; drop 0; mend if live = 1"), 6);
        x.terms(0, 999);
        so("time = 999");
    }

    private static void putCanBe() {
        due("none of 0, one of 255", orders("put 0 of 0; put 1 of 255"), 2);
        due("found", find("" + (char) 255), 1);
        fresh();
        due("200 of 255", orders("put 200 of 255"), 1);
        seen("200", x.scan(0), Tape.row(200, 255));
        fresh();
        put(1, 1);
        String was = stand();
        for (String text : new String[] {"put 201 of 1", "put 1 of 256", "put 1000 of 1000", "put 0-1 of 1", "put 1 of 0-1", "put 1/0 of 1",
            "put 1 of 1/0", "put " + MOST + "*2 of 1", "put 200 of 1 times 2", "put " + MOST + " of 1", "put 1 of " + MOST}) {
            due(text, orders("mend; " + text + "; mend"), -3);
            due("stopped at " + text, x.stopped(), 1);
        }
        same("none could be", was);
    }

    private static void growCanBe() {
        put("ab");
        due("to nothing", orders("grow 0 to 0"), 1);
        seen("nothing", 0, Tape.row(0, 7));
        due("to 40", orders("grow 0 to 40"), 1);
        seen("each byte 7", 0, Tape.row(40, 7));
        rule("bars if page = 0");
        due("to 200", orders("grow 0 to 200"), 1);
        seen("each byte 7", 0, Tape.row(200, 7));
        x.undo();
        String was = stand();
        for (String text : new String[] {"grow 0 to 201", "grow 0 to 0-1", "grow 1 to 1", "grow 0-1 to 1", "grow 128 to 1", "grow 1000 to 1",
            "grow 1/0 to 1", "grow 0 to 1/0", "grow 0 to 1000", "grow 1000*1000 to 1"}) {
            due(text, orders("mend; " + text), -3);
            due("stopped at " + text, x.stopped(), 1);
        }
        same("none could be", was);
        rule("bars");
        due("no room", orders("grow 0 to 41"), -3);
        due("it is there", x.view(0), 40);
    }

    private static void othersCanBe() {
        put("ab");
        due("pages", orders("pack 0; pack 7"), 2);
        String was = stand();
        for (String text : new String[] {"drop 1", "drop 0-1", "drop 128", "drop 16", "drop 0 times 2", "drop 1/0", "pack 8", "pack 0-1",
            "pack 1%0", "drop latest", "pack " + MOST + "+1", "drop " + MOST, "pack " + MOST}) {
            due(text, orders("mend; put 1 of 2 if 1 = 2; " + text), -3);
            due("stopped at " + text, x.stopped(), 2);
        }
        same("none could be", was);
        due("a moved cell's address", orders("put 36 of 1; grow 0 to 30; drop 16"), -3);
        due("a piece's address", orders("drop 0; put 41 of 1; drop 0"), -3);
        same("none could be", was);
    }

    private static void packMend() {
        put(20, 1);
        put(10, 2);
        x.drop(0);
        due("WASTE", x.page(0, 4), 20);
        due("pack", orders("pack 0"), 1);
        due("no WASTE", x.page(0, 4), 0);
        fresh();
        for (int p = 0; p < 8; p++) {
            put(40, 1);
        }
        for (int p = 0; p < 8; p++) {
            x.drop(16 * p);
        }
        due("pack", orders("pack 3"), 1);
        due("its PROMISE", x.page(3, 5), 8);
        due("that of no other PAGE", x.page(2, 5) + x.page(4, 5), 4);
        due("mend", orders("mend"), 1);
        for (int p = 0; p < 8; p++) {
            due("all PROMISES", x.page(p, 5), 8);
        }
        due("undo", x.undo(), 4);
        due("as it was", x.page(2, 5), 2);
        due("undo", x.undo(), 3);
        due("as it was", x.page(3, 5), 2);
    }

    private static void manyTexts() {
        for (int i = 0; i < 9; i++) {
            reads("drop " + many("1", "+", 50));
            reads("mend if " + many("1=1", " and ", 25));
        }
        so("1+2*3=7");
        notSo("1=1 and 1=2");
        due("a law behind them", law("bars if page < 5"), 0);
        due("it is read right", x.compare(0, 0), 5);
    }

    private static void endsAll() {
        for (int i = 0; i < 20; i++) {
            put(i % 3, i);
        }
        String was = stand();
        due("much is done, then one can't be", orders("drop 3; drop 5; pack 0; mend times 20; put 40 of 9 times 3; grow 0 to 30; drop 99"), -3);
        same("all is as it was ahead of it", was);
        due("-3", x.status(), -3);
        due("which clause", x.stopped(), 6);
        due("what was ahead of it can be undone", x.undo(), 0);
        due("one less", x.count(0), 19);
    }

    public static void main(String[] args) {
        run("terms II: a tape of at most 400 bytes", TextBoundTests::tapeBytes);
        run("terms II: a full tape", TextBoundTests::tapeFull);
        run("terms II: tokens, longest rows of letters, of digits, single other bytes", TextBoundTests::tokens);
        run("terms II: any blanks between", TextBoundTests::blanks);
        run("terms II: 12 clauses at most, fault at the 13th's first token", TextBoundTests::clauses);
        run("terms II: or, and, not, brackets of tests", TextBoundTests::oneMeetsTheOther);
        run("terms II: less, more, alike", TextBoundTests::signs);
        run("terms II: sums, terms, brackets of sums", TextBoundTests::sums);
        run("terms II: a number to 1,000", TextBoundTests::numbers);
        run("terms II: 50 parts, fault at the 51st; P, times aside", TextBoundTests::parts);
        run("terms II: 8 brackets of both kinds, fault at the 9th", TextBoundTests::brackets);
        run("terms II: fault, the first token that can't go on, the end's", TextBoundTests::faults);
        run("terms II: fault within brackets, sums, tests", TextBoundTests::faultsWithin);
        run("terms II: many texts, one behind the other", TextBoundTests::manyTexts);
        run("terms II: words of each language", TextBoundTests::wordsOfEach);
        run("terms II: broken beyond 1,000,000,000 either way", TextBoundTests::beyond);
        run("terms II: broken divided by 0, cut towards 0, what is left", TextBoundTests::divided);
        run("terms II: or, and ask only what can still matter", TextBoundTests::asked);
        run("laws: 6 at most", TextBoundTests::sixLaws);
        run("laws: none in force at first", TextBoundTests::noneInForce);
        run("laws: words of a page, a size, as all is then", TextBoundTests::lawWords);
        run("laws: asked for each cell of a long record", TextBoundTests::lawOfLongOnes);
        run("laws: leaves 0 to 64, else the nearest, 0 without", TextBoundTests::leavesBounds);
        run("laws: a clause holds; the last leaves; bars", TextBoundTests::clauseHolds);
        run("orders: times 1 to 20, once without", TextBoundTests::times);
        run("orders: P 0 to 7", TextBoundTests::pageWords);
        run("orders: if is asked each time, not run if broken", TextBoundTests::ifAskedEachTime);
        run("orders: done, latest, live, time", TextBoundTests::orderWords);
        run("orders: put can't be", TextBoundTests::putCanBe);
        run("orders: grow can't be", TextBoundTests::growCanBe);
        run("orders: drop, pack can't be", TextBoundTests::othersCanBe);
        run("orders: pack, mend", TextBoundTests::packMend);
        run("orders: one that can't be ends it, all is as it was", TextBoundTests::endsAll);
        check.close();
    }
}
