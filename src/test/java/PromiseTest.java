import java.util.Arrays;

/** Each promise by itself: ordinary inputs, the edges that the document names, wrong inputs. */
public final class PromiseTest extends YardTest {
    private static void lawFault(String text, int place) {
        YardYear y = new YardYear();
        is("law of <" + text + ">", law(y, text), place < 0 ? 0 : -6);
        is("fault of <" + text + ">", y.fault(), place);
    }

    private static void orderFault(String text, int place) {
        YardYear y = new YardYear();
        int answer = orders(y, text);
        is("orders <" + text + "> refused", answer == -6 ? 1 : 0, place < 0 ? 0 : 1);
        is("fault of <" + text + ">", y.fault(), place);
    }

    /** What a SUM of a LAW comes to for the PLOT of family 4, small, years 3, in cell 7; 77 if it is BROKEN. */
    private static int sum(String sum) {
        YardYear y = new YardYear();
        y.bury(4, 7, 1);
        y.pass();
        y.pass();
        y.pass();
        y.put(10, 0, 2);
        y.put(10, 1, 13);
        y.terms(3, 6);
        y.force(law(y, "digs 77 ; digs " + sum));
        return y.of(0, 5);
    }

    private static int test(String test) {
        YardYear y = under("digs 10; digs 11 if " + test);
        y.bury(4, 7, 1);
        return y.of(0, 5) - 10;
    }

    public static void main(String[] args) {
        newObject();
        cells();
        plots();
        goesAndBarred();
        termsAndTape();
        rows();
        lawTexts();
        sums();
        tests();
        lawsInForce();
        orderTexts();
        orderRuns();
        acts();
        years();
        undoing();
        whereAndIndoors();
        ways();
        packing();
        meetings();
        meeting();
        findings();
        spades();
        compares();
        arrivals();
        rounds();
        centuries();
        images();
        counts();
        statuses();
        report("PromiseTest");
    }

    private static void newObject() {
        promise(1);
        YardYear y = new YardYear();
        is("NONE", YardYear.NONE, -1);
        for (int c = 0; c < 32; c++) {
            is("kind", y.at(c, 0), 0);
            is("price", y.at(c, 1), 0);
            is("bought", y.at(c, 2), 0);
            is("plot", y.at(c, 3), -1);
        }
        int[] counts = {0, 0, 0, 0, 0, 0, 0, 0, 0, 0, 0, 0, -1, 0, 20, 2, 0, -1};
        for (int i = 0; i < counts.length; i++) {
            is("count " + i, y.count(i), counts[i]);
        }
        is("status", y.status(), 0);
        is("fault", y.fault(), -1);
        is("stopped", y.stopped(), -1);
        is("moles", y.moles(), 0);
        is("blocked", y.blocked(), 0);
        is("drawn", y.drawn(0, 0), -1);
    }

    private static void cells() {
        promise(2);
        YardYear y = new YardYear();
        is("kind", y.put(31, 0, 3), 0);
        is("kind again", y.put(31, 0, 1), 3);
        is("price", y.put(31, 1, 99), 0);
        is("price again", y.put(31, 1, 0), 99);
        is("bought", y.put(31, 2, 1), 0);
        is("bought again", y.put(31, 2, 0), 1);
        is("bought twice", y.put(31, 2, 1), 0);
        is("a wall once more", y.put(31, 0, 1), 1);
        is("is still bought", y.at(31, 2), 1);
        is("no wall", y.put(31, 0, 2), 1);
        is("is not bought any more", y.at(31, 2), 0);
        y.put(31, 0, 1);
        is("nor as a wall anew", y.at(31, 2), 0);
        int[][] bad = {{-1, 0, 0}, {32, 0, 0}, {0, -1, 0}, {0, 3, 0}, {0, 0, -1}, {0, 0, 4}, {0, 1, -1}, {0, 1, 100},
            {0, 2, -1}, {0, 2, 2}, {Integer.MIN_VALUE, 0, 0}, {0, Integer.MAX_VALUE, 0}};
        for (int[] b : bad) {
            is("bad number", y.put(b[0], b[1], b[2]), -1);
            is("status", y.status(), -1);
        }
        for (int kind = 0; kind < 4; kind++) {
            y.put(3, 0, kind);
            y.pass();
            if (kind != 1) {
                is("bought, no wall", y.put(3, 2, 1), -3);
                is("status", y.status(), -3);
                is("nothing was put", y.count(5), 1);
            }
            is("not bought", y.put(3, 2, 0), 0);
            is("status", y.status(), 0);
            is("is not bought", y.at(3, 2), 0);
            is("what was ahead can't be undone", y.count(5), 0);
        }
        y.put(3, 0, 0);
        y.bury(0, 5, 0);
        is("wall where a plot lies", y.put(5, 0, 1), -3);
        is("water where a plot lies", y.put(5, 0, 3), -3);
        is("path where a plot lies", y.put(5, 0, 2), 0);
        is("grass where a plot lies", y.put(5, 0, 0), 2);
        is("price where a plot lies", y.put(5, 1, 7), 0);
        is("bad before impossible", y.put(5, 0, 9), -1);
        promise(3);
        is("kind", y.at(5, 0), 0);
        is("price", y.at(5, 1), 7);
        is("wall", y.at(31, 0), 1);
        y.buy(31);
        is("bought", y.at(31, 2), 1);
        is("plot", y.at(5, 3), 0);
        is("no plot", y.at(6, 3), -1);
        is("no cell", y.at(32, 0), -1);
        is("no cell below", y.at(-1, 3), -1);
        is("nothing", y.at(5, 4), -1);
        is("nothing below", y.at(5, -1), -1);
    }

    private static void plots() {
        promise(4);
        YardYear y = new YardYear();
        y.bury(5, 30, 1);
        y.bury(2, 9, 0);
        int[][] want = {{30, 5, 1, 0, 1, 2, -1}, {9, 2, 0, 0, 1, 4, -1}};
        for (int p = 0; p < 2; p++) {
            for (int what = 0; what < 7; what++) {
                is("of " + p + " " + what, y.of(p, what), want[p][what]);
            }
        }
        is("below", y.of(0, -1), -1);
        is("no plot", y.of(2, 0), -1);
        is("no plot below", y.of(-1, 0), -1);
        y.pass();
        is("years", y.of(0, 3), 1);
        y.force(law(y, "moves 10;digs 100 if family = 5;digs 0 if family = 2"));
        is("nearest to nine", y.of(0, 4), 9);
        is("nearest to 99", y.of(0, 5), 99);
        is("nearest to 1", y.of(1, 5), 1);
        y.force(law(y, "moves 0 - 5;moves 3 if family = 5;moves 1/0;digs 7 if small > 0"));
        is("last that holds", y.of(0, 4), 3);
        is("nearest to 0", y.of(1, 4), 0);
        is("digs of one", y.of(0, 5), 7);
        is("digs without", y.of(1, 5), 4);
        y.force(law(y, "moves 5 if family = 3;digs 5 if 1 = 2"));
        is("moves without", y.of(0, 4), 1);
        is("digs without, small", y.of(0, 5), 2);
    }

    private static void goesAndBarred() {
        promise(5);
        YardYear y = new YardYear();
        y.bury(0, 0, 0);
        for (int c = 1; c < 4; c++) {
            y.put(c, 0, c);
        }
        int[] want = {1, 0, 1, 0};
        for (int c = 0; c < 4; c++) {
            is("goes into kind " + c, y.goes(0, c), want[c]);
        }
        y.buy(1);
        is("a wall that is bought", y.goes(0, 1), 1);
        is("no plot", y.goes(1, 0), -1);
        is("no cell", y.goes(0, 32), -1);
        is("no cell below", y.goes(0, -1), -1);
        y.force(law(y, "goes if kind = 3 and family = 0;goes if cell = 20;moves 3"));
        is("water by law", y.goes(0, 3), 1);
        is("grass not by law", y.goes(0, 5), 0);
        is("a cell by law", y.goes(0, 20), 1);
        y.force(law(y, "moves 3;bars"));
        is("no such clause", y.goes(0, 5), 1);
        is("no such clause, water", y.goes(0, 3), 0);
        y.force(law(y, "goes if 1/0=1"));
        is("a broken one", y.goes(0, 5), 0);
        y.force(law(y, "goes"));
        is("without if", y.goes(0, 3), 1);
        promise(6);
        y = new YardYear();
        is("by no law", y.barred(0, 0), 0);
        y.force(law(y, "bars if family = 2 and cell < 9;bars if plot + small + years + 2 = 0 and cell = 30"));
        is("barred", y.barred(2, 8), 1);
        is("not there", y.barred(2, 9), 0);
        is("not that family", y.barred(3, 8), 0);
        is("plot, small -1, years 0", y.barred(3, 30), 1);
        is("no family", y.barred(6, 0), -1);
        is("no family below", y.barred(-1, 0), -1);
        is("no cell", y.barred(0, 32), -1);
        is("no cell below", y.barred(0, -1), -1);
    }

    private static void termsAndTape() {
        promise(7);
        YardYear y = new YardYear();
        int[][] ends = {{0, 0, 999, 0}, {1, 1, 99, 20}, {2, 0, 10, 2}, {3, 0, 9, 0}};
        for (int[] e : ends) {
            is("what it was", y.terms(e[0], e[1]), e[3]);
            is("least", y.terms(e[0], e[2]), e[1]);
            is("most", y.count(13 + e[0]), e[2]);
            is("below", y.terms(e[0], e[1] - 1), -1);
            is("beyond", y.terms(e[0], e[2] + 1), -1);
            is("as it was", y.count(13 + e[0]), e[2]);
        }
        is("no term", y.terms(4, 1), -1);
        is("no term below", y.terms(-1, 1), -1);
        promise(8);
        y = new YardYear();
        for (int i = 1; i <= 20; i++) {
            is("bytes", y.feed(i, 0, 0, 0, 0), 20 * i);
        }
        is("no room", y.feed(0, 0, 0, 0, 0), -1);
        is("is not refused", y.status(), 0);
        is("bytes", y.count(6), 400);
        y.end(380);
        is("just room", y.feed(0, 0, 0, 0, 0), 400);
        y.end(381);
        is("one too many", y.feed(0, 0, 0, 0, 0), -1);
        is("as many as ahead", y.count(6), 381);
        y.end(0);
        y.feed(0x00010203, 0x02630102, 0, 0, 0);
        y.end(8);
        is("told", y.row(), 4);
        is("first byte", y.at(0, 0), 0);
        is("second byte", y.at(0, 1), 1);
        is("third byte", y.at(1, 0), 2);
        is("fourth byte", y.at(1, 1), 3);
        is("sixth byte", y.at(2, 1), 99);
        y.feed(-1, 0, 0, 0, 0);
        y.end(4);
        is("bytes of 255", y.row(), 0);
        is("two moles", y.moles(), 2);
        promise(9);
        y.feed(1, 2, 3, 4, 5);
        is("more than there is", y.end(21), -1);
        is("below", y.end(-1), -1);
        is("is not refused", y.status(), 0);
        is("all", y.end(20), 20);
        is("some", y.end(7), 7);
        is("not again", y.end(8), -1);
        is("nothing", y.end(0), 0);
        is("bytes", y.count(6), 0);
    }

    private static void rows() {
        promise(10);
        YardYear y = new YardYear();
        is("empty", y.row(), -6);
        is("status", y.status(), -6);
        tape(y, 1, 5, 0, 7, 3, 99, 2, 0);
        is("told", y.row(), 4);
        is("empty then", y.count(6), 0);
        is("wall", y.at(0, 0), 1);
        is("its price", y.at(0, 1), 5);
        is("price", y.at(1, 1), 7);
        is("water", y.at(2, 0), 3);
        is("path", y.at(3, 0), 2);
        is("no moles", y.moles(), 0);
        y.put(0, 2, 1);
        y.bury(0, 1, 0);
        tape(y, 1, 6, 1, 1, 4, 4, 0, 100, 2);
        is("told of moles", y.row(), 1);
        is("still bought", y.at(0, 2), 1);
        is("price of a wall", y.at(0, 1), 6);
        is("no wall where a plot lies", y.at(1, 0), 0);
        is("nor its price", y.at(1, 1), 7);
        is("no kind 4", y.at(2, 0), 3);
        is("no price 100", y.at(3, 0), 2);
        is("the end within", y.at(4, 0), 0);
        promise(11);
        is("moles", y.moles(), 4);
        is("refused", y.row(), -6);
        is("as ahead", y.moles(), 4);
        tape(y, 0, 0, 3, 3, 0, 0, 1);
        is("water where a plot lies", y.row(), 2);
        is("two", y.moles(), 2);
        tape(y, 2, 3);
        y.row();
        promise(10);
        is("no wall, not bought", y.at(0, 2), 0);
        int[] all = new int[70];
        Arrays.fill(all, 2);
        tape(y, all);
        is("all but beyond the ring", y.row(), 32);
        is("the last", y.at(31, 0), 2);
        promise(11);
        is("three beyond", y.moles(), 3);
        y.bury(0, 9, 0);
        tape(y, 9);
        is("one byte", y.row(), 0);
        is("one mole", y.moles(), 1);
    }

    private static void lawTexts() {
        promise(12);
        YardYear y = new YardYear();
        for (int i = 0; i < 6; i++) {
            is("number", law(y, "moves " + i), i);
            is("tape is empty", y.count(6), 0);
        }
        tape(y, "zzz");
        is("no room", y.law(), -5);
        is("tape is empty then", y.count(6), 0);
        is("was not read", y.fault(), -1);
        is("six", y.count(4), 6);
        promise(14);
        lawFault("moves 1", -1);
        lawFault("  moves   1  ", -1);
        lawFault("moves1;digs[2];goes;bars", -1);
        lawFault("digs 1000 if not not 1=1 or not(2<3)and[4]>[[5]]", -1);
        lawFault("", 0);
        lawFault("   ", 3);
        lawFault("moves", 5);
        lawFault("moves  ", 7);
        lawFault("Moves 1", 0);
        lawFault("move 1", 0);
        lawFault("movess 1", 0);
        lawFault("goesz", 0);
        lawFault("agoes", 0);
        lawFault("goes9", 4);
        lawFault("digs 0a", 6);
        lawFault("digs 9:", 6);
        lawFault("goes{", 4);
        lawFault("goes`", 4);
        lawFault("digs 1/", 7);
        lawFault("moves 1001", 6);
        lawFault("moves 01000", -1);
        lawFault("moves 99999999999999999999", 6);
        lawFault("moves 4294967297", 6);
        lawFault("moves 00000000000000000000000000000000001", -1);
        lawFault("moves 1 2", 8);
        lawFault("moves -1", 6);
        lawFault("moves 1 +", 9);
        lawFault("moves (1)", 6);
        lawFault("moves [1)", 8);
        lawFault("moves [1 < 2]", 9);
        lawFault("moves 1 < 2", 8);
        lawFault("goes 1", 5);
        lawFault("goes if 1", 9);
        lawFault("goes if 1 <", 11);
        lawFault("goes if 1 < 2 < 3", 14);
        lawFault("goes if (1) < 2", 10);
        lawFault("goes if [1 < 2", 11);
        lawFault("goes if (1 < 2", 14);
        lawFault("goes if 1 < 2)", 13);
        lawFault("goes if 1<2 and", 15);
        lawFault("goes if or", 8);
        lawFault("goes if not", 11);
        lawFault("goes if not [not 1]", 13);
        lawFault("goes if 1=1 if 1=1", 12);
        lawFault("goes ; ", 7);
        lawFault(";goes", 0);
        lawFault("goes,bars", 4);
        lawFault("goes\tif", 4);
        lawFault("goes\u00e9", 4);
        lawFault("digs plots", 5);
        lawFault("digs at 1", 5);
        lawFault("bury 1 at 2", 0);
        lawFault("digs plot + cell + kind + price + bought + family + small + years + year + mood", -1);
        String twelve = "goes;goes;goes;goes;goes;goes;goes;goes;goes;goes;goes;goes";
        lawFault(twelve, -1);
        lawFault(twelve + "; goes", 61);
        lawFault(twelve + ";", 60);
        lawFault(twelve + "; zz", 61);
        String fifty = "moves 1" + "+1".repeat(24) + ";digs year" + "+plot".repeat(24);
        lawFault(fifty, -1);
        lawFault(fifty + " + cell", fifty.length() + 3);
        lawFault(fifty + ";goes if 1=1", fifty.length() + 9);
        lawFault("moves " + "[".repeat(8) + "1" + "]".repeat(8), -1);
        lawFault("moves " + "[".repeat(9) + "1" + "]".repeat(9), 14);
        lawFault("goes if ((((([[[1]]]=1)))))", -1);
        lawFault("goes if (((((([[[1]]]=1))))))", 16);
        lawFault("goes if (((((((((1=1)))))))))", 16);
        lawFault("goes if (((((((1=1)))))))and(((((((([1]=1))))))))", 36);
        y = new YardYear();
        is("ahead of any", y.fault(), -1);
        law(y, "goes x");
        is("there", y.fault(), 5);
        law(y, "goes");
        is("none then", y.fault(), -1);
        orders(y, "pas");
        is("by orders", y.fault(), 0);
        promise(12);
        is("text that is refused is no law", y.count(4), 1);
        is("the same text again", law(y, "goes"), 1);
        tape(y, "goes x");
        is("refused", y.law(), -6);
        is("tape is empty", y.count(6), 0);
    }

    private static void sums() {
        promise(4);
        is("number", sum("12"), 12);
        is("plot", sum("plot + 1"), 1);
        is("cell", sum("cell"), 10);
        is("kind", sum("kind"), 2);
        is("price", sum("price"), 13);
        is("bought", sum("bought + 5"), 5);
        is("family", sum("family"), 4);
        is("small", sum("small + 7"), 8);
        is("years", sum("years"), 3);
        is("year", sum("year"), 3);
        is("mood", sum("mood"), 6);
        is("products first", sum("2 + 3 * 4"), 14);
        is("from the left", sum("20 - 5 - 3"), 12);
        is("of one rank from the left", sum("20 / 3 * 2 % 7"), 5);
        is("brackets", sum("[2 + 3] * 4"), 20);
        is("brackets on the right", sum("20 - [5 - 3]"), 18);
        is("mixed", sum("1 + 2 * 3 - 8 / 4 * 2 + 9 % 4"), 4);
        is("cut towards 0", sum("10 + [0 - 7] / 2"), 7);
        is("what is left", sum("10 + [0 - 7] % 2"), 9);
        is("what is left of a divisor below 0", sum("10 + 7 % [0 - 2]"), 11);
        is("divided by 0", sum("1 / 0"), 77);
        is("left by 0", sum("1 % 0"), 77);
        is("broken within", sum("5 + 0 * [1 / [years - 3]]"), 77);
        is("at the edge", sum("1000 * 1000 * 1000 / 1000 / 1000 / 100"), 10);
        is("beyond the edge", sum("[1000 * 1000 * 1000 + 1] / 1000 / 1000 / 100"), 77);
        is("beyond it below", sum("[0 - 1000 * 1000 * 1000 - 1] * 0 + 5"), 77);
        is("at the edge below", sum("[0 - 1000 * 1000 * 1000] * 0 + 5"), 5);
        is("far beyond", sum("1000*1000*1000*1000 * 0 + 5"), 77);
    }

    private static void tests() {
        promise(4);
        is("less", test("1 < 2"), 1);
        is("not less", test("2 < 2"), 0);
        is("more", test("3 > 2"), 1);
        is("not more", test("2 > 2"), 0);
        is("even", test("2 = 2"), 1);
        is("not even", test("2 = 3"), 0);
        is("not", test("not 2 = 3"), 1);
        is("not not", test("not not 2 = 3"), 0);
        is("not binds the closest", test("not 1 = 2 and 1 = 2"), 0);
        is("not within not", test("not (not 1 = 1)"), 1);
        is("not within not within not", test("not (not (not 1 = 2))"), 1);
        is("many ands", test("1=1" + " and 1=1".repeat(23)), 1);
        is("many ors", test("1=2" + " or 1=2".repeat(22) + " or 1=1"), 1);
        is("not of brackets", test("not (1 = 2 and 1 = 2)"), 1);
        is("and", test("1 = 1 and 2 = 2"), 1);
        is("and not", test("1 = 1 and 2 = 3"), 0);
        is("or", test("1 = 2 or 2 = 2"), 1);
        is("or not", test("1 = 2 or 2 = 3"), 0);
        is("and ahead of or", test("1 = 1 or 1 = 1 and 1 = 2"), 1);
        is("and ahead of or, first", test("1 = 2 and 1 = 2 or 1 = 1"), 1);
        is("or in brackets", test("(1 = 1 or 1 = 1) and 1 = 2"), 0);
        is("or asks no more", test("1 = 1 or 1 / 0 = 1"), 1);
        is("nor a third", test("1 = 2 or 1 = 1 or 1 / 0 = 1"), 1);
        is("and asks no more", test("not (1 = 2 and 1 / 0 = 1)"), 1);
        is("nor a third", test("not (1 = 1 and 1 = 2 and 1 / 0 = 1)"), 1);
        is("or asks", test("1 = 2 or 1 / 0 = 1"), 0);
        is("broken makes all so", test("1 / 0 = 1 or 1 = 1"), 0);
        is("broken within not", test("not 1 / 0 = 1"), 0);
        is("broken within and", test("not (1 / 0 = 1 and 1 = 2)"), 0);
        is("broken on the right of a sign", test("not 1 = 1 / 0"), 0);
        is("or behind an and that is cut short", test("1 = 2 and 1 / 0 = 1 or 2 = 2"), 1);
        is("an and that is skipped", test("1 = 1 or 1 = 1 and 1 / 0 = 1"), 1);
        is("many nots", test("not ".repeat(90) + "1=1"), 1);
        is("many nots, odd", test("not ".repeat(91) + "1=1"), 0);
    }

    private static void lawsInForce() {
        promise(16);
        YardYear y = new YardYear();
        is("no such law", y.force(0), -2);
        is("none for none", y.force(-1), -1);
        is("not refused", y.status(), 0);
        law(y, "moves 2");
        law(y, "moves 3");
        is("which was: none", y.force(1), -1);
        is("status", y.status(), 0);
        is("which was", y.force(0), 1);
        is("no such law", y.force(2), -2);
        is("status", y.status(), -2);
        is("below", y.force(-2), -2);
        is("in force", y.count(12), 0);
        y.bury(0, 0, 0);
        is("is in force", y.of(0, 4), 2);
        is("which was", y.force(-1), 0);
        is("none is in force", y.of(0, 4), 1);
        promise(13);
        y = under("bars if family = 1 or kind = 2;goes if kind = 3;moves 2 - years");
        y.put(3, 0, 3);
        y.put(4, 0, 3);
        is("barred", orders(y, "bury 1 at 2"), -3);
        is("buried", orders(y, "bury 2 at 2"), 1);
        is("by law", orders(y, "pass times 3"), 3);
        is("went", y.of(0, 0), 4);
        is("not blocked on staying", y.blocked(), 0);
    }

    private static void orderTexts() {
        promise(14);
        orderFault("pass", -1);
        orderFault("pass times 20 if 1=1;pass;pass times 1", -1);
        orderFault("buy kind 31 if 1 = 2", -1);
        orderFault("bury at 9 at at 0 if 1=2", -1);
        orderFault("raise bought 0 + moved + done if 1=2", -1);
        orderFault("", 0);
        orderFault("pass times", 10);
        orderFault("pass times 0", 11);
        orderFault("pass times 21", 11);
        orderFault("pass times 007", -1);
        orderFault("pass times [1]", 11);
        orderFault("pass times year", 11);
        orderFault("pass times 2 times 2", 13);
        orderFault("pass if 1=1 times 2", 12);
        orderFault("pass at 2", 5);
        orderFault("bury 1", 6);
        orderFault("bury 1 at", 9);
        orderFault("bury at 1", 9);
        orderFault("bury at 10 at 0", 8);
        orderFault("bury 1 at at 10", 13);
        orderFault("buy kind 32", 9);
        orderFault("buy bought 32", 11);
        orderFault("buy kind", 8);
        orderFault("buy kind plots", 9);
        orderFault("buy at [1]", 7);
        orderFault("buy mood", 4);
        orderFault("buy plot", 4);
        orderFault("moves 1", 0);
        orderFault("raise", 5);
        String fifty = "buy 1" + "+1".repeat(24) + " times 3 if at 9" + "+kind 7".repeat(23) + "=0";
        orderFault(fifty, -1);
        orderFault(fifty + "+bought 3", fifty.length() + 1);
        String twelve = "pass times 1;".repeat(12);
        orderFault(twelve.substring(0, twelve.length() - 1), -1);
        orderFault(twelve + "pass", twelve.length());
        promise(13);
        YardYear y = new YardYear();
        is("blanks alone", orders(y, "    "), -6);
        is("status", y.status(), -6);
        is("fault", y.fault(), 4);
        is("tape is empty", y.count(6), 0);
    }

    private static void orderRuns() {
        promise(13);
        YardYear y = new YardYear();
        is("runs", orders(y, "bury 3 at 4 times 1;bury 2 at 4 + done * 6 times 3;pass times 2 if plots = 4"), 6);
        is("plots", y.count(0), 4);
        is("family", y.of(0, 1), 3);
        is("not small", y.of(0, 2), 0);
        is("cell", y.of(3, 0), 24);
        is("year", y.count(13), 2);
        is("by done", orders(y, "pass times 9 if done < 3"), 3);
        is("by moved: none yet", orders(y, "pass if moved = 0 - 1;pass if moved = 0 - 1"), 1);
        is("by moved", orders(y, "pass;pass if moved = 4"), 2);
        is("by year", orders(y, "pass times 20 if year < 10"), 2);
        is("by at", orders(y, "raise 0 if at 0 = 14 and at 4 = 0 - 1"), 1);
        y.put(2, 0, 1);
        y.put(2, 1, 8);
        is("by kind, bought", orders(y, "buy 2 if kind 2 = 1 and bought 2 = 0;pass if bought 2 = 1"), 2);
        is("bought", y.at(2, 2), 1);
        y.put(0, 0, 1);
        y.put(31, 0, 1);
        is("by kinds at the ends", orders(y, "buy 0 if kind 0 + kind 31 = 2;buy 31 if bought 0 = 1 and bought 31 = 0"), 2);
        is("by bought at the ends", orders(y, "pass if bought 0 + bought 31 < 2"), 0);
        y.put(0, 0, 0);
        y.put(31, 0, 0);
        is("broken if is not run", orders(y, "pass if 1 / 0 = 1;pass if not 1 / 0 = 1"), 0);
        is("done, stopped", y.stopped(), -1);
        int year = y.count(13);
        is("broken sum", orders(y, "pass;raise 1 / 0"), -3);
        promise(15);
        is("stopped", y.stopped(), 1);
        promise(13);
        is("as it was", y.count(13), year);
        is("no such plot", orders(y, "raise 9"), -3);
        is("no such family", orders(y, "bury 6 at 0"), -3);
        is("no such cell", orders(y, "buy 32"), -3);
        is("below", orders(y, "buy 0 - 1"), -3);
        is("no wall", orders(y, "buy 7"), -3);
        is("broken first of two", orders(y, "bury 1/0 at 9"), -3);
        is("broken second", orders(y, "bury 1 at 1/0"), -3);
        is("refused by -1 are the calls alone", y.count(7), 0);
        is("refused by -3", y.count(9), 8);
        is("full", orders(y, "bury 1 at 3 + plots times 7"), 7);
        is("no room", orders(y, "pass;bury 1 at 19"), -5);
        promise(15);
        is("stopped", y.stopped(), 1);
        is("refused by -6", orders(y, "pas"), -6);
        is("none then", y.stopped(), -1);
        is("can't be ahead of no room", orders(y, "bury 1 at 2"), -3);
        is("stopped", y.stopped(), 0);
        is("done", orders(y, "pass if 1 = 2"), 0);
        is("none then", y.stopped(), -1);
        promise(13);
        wholeOrNothing();
    }

    private static void wholeOrNothing() {
        YardYear y = walled(7);
        y.bury(0, 6, 0);
        y.bury(1, 5, 1);
        y.pass();
        is("both blocked", y.blocked(), 2);
        is("too many", orders(y, "raise 1;pass times 20;buy 7;bury 2 at 0;raise 9"), -3);
        is("plots", y.count(0), 2);
        is("cell", y.of(1, 0), 5);
        is("small", y.of(1, 2), 1);
        is("years", y.of(1, 3), 1);
        is("year", y.count(13), 1);
        is("bought", y.at(7, 2), 0);
        is("blocked as ahead", y.blocked(), 2);
        is("to undo as ahead", y.count(5), 3);
        is("undo a pass", y.undo(), 3);
        is("undo a bury", y.undo(), 0);
        is("undo a bury", y.undo(), 0);
        is("nothing more", y.undo(), -3);
        is("the last year", y.terms(0, 998), 0);
        is("one year too many", orders(y, "pass times 2"), -3);
        is("none of both", y.count(13), 998);
        is("one", orders(y, "pass"), 1);
    }

    private static void acts() {
        promise(17);
        YardYear y = new YardYear();
        for (int i = 0; i < 10; i++) {
            is("number", y.bury(i % 6, 3 * i, i % 2), i);
        }
        is("no room", y.bury(0, 31, 0), -5);
        is("status", y.status(), -5);
        is("can't be ahead of no room", y.bury(0, 0, 0), -3);
        is("bad ahead of all", y.bury(6, 0, 0), -1);
        y = new YardYear();
        int[][] bad = {{-1, 0, 0}, {6, 0, 0}, {0, -1, 0}, {0, 32, 0}, {0, 0, -1}, {0, 0, 2}};
        for (int[] b : bad) {
            is("bad number", y.bury(b[0], b[1], b[2]), -1);
        }
        for (int kind = 1; kind < 4; kind++) {
            y.put(kind, 0, kind);
            is("no grass", y.bury(0, kind, 0), -3);
        }
        y.put(1, 2, 1);
        is("a wall that is bought is no grass", y.bury(0, 1, 0), -3);
        is("lies", y.bury(0, 5, 1), 0);
        is("there lies one", y.bury(0, 5, 1), -3);
        y.force(law(y, "bars if family = 4"));
        is("barred", y.bury(4, 9, 0), -3);
        is("not barred", y.bury(3, 9, 0), 1);
        promise(18);
        y = walled(0, 4);
        y.put(4, 1, 55);
        y.put(9, 1, 3);
        is("price", y.buy(4), 55);
        is("price 0", y.buy(0), 0);
        is("twice", y.buy(4), -3);
        is("no wall", y.buy(9), -3);
        is("no cell", y.buy(32), -1);
        is("no cell below", y.buy(-1), -1);
        is("bought", y.at(4, 2), 1);
        promise(19);
        y = new YardYear();
        is("none there", y.raise(0), -2);
        y.bury(0, 10, 0);
        y.bury(1, 20, 1);
        y.pass();
        y.bury(2, 30, 0);
        is("cell", y.raise(0), 11);
        is("one number less", y.of(0, 1), 1);
        is("small", y.of(0, 2), 1);
        is("years", y.of(0, 3), 1);
        is("and the next", y.of(1, 0), 30);
        is("its years", y.of(1, 3), 0);
        is("at", y.at(30, 3), 1);
        is("gone", y.at(11, 3), -1);
        is("no such plot", y.raise(2), -2);
        is("below", y.raise(-1), -2);
        is("status", y.status(), -2);
        is("the last", y.raise(1), 30);
        is("the first", y.raise(0), 21);
        is("plots", y.count(0), 0);
    }

    private static void years() {
        promise(20);
        YardYear y = under("moves family");
        y.put(2, 0, 3);
        y.bury(3, 30, 0);
        y.bury(2, 29, 0);
        y.bury(0, 8, 0);
        y.bury(5, 3, 0);
        is("moved", y.pass(), 3 + 2 + 4);
        is("round the ring", y.of(0, 0), 1);
        is("behind it", y.of(1, 0), 31);
        is("stays", y.of(2, 0), 8);
        is("up to that", y.of(3, 0), 7);
        is("years", y.of(2, 3), 1);
        is("year", y.count(13), 1);
        promise(21);
        is("blocked by a plot", y.blocked(), 1);
        y.put(3, 0, 1);
        promise(20);
        is("moved", y.pass(), 1);
        promise(21);
        is("by water and by plots", y.blocked(), 3);
        is("ahead", y.of(1, 0), 0);
        y.terms(0, 999);
        promise(20);
        is("at 999", y.pass(), -3);
        is("status", y.status(), -3);
        promise(21);
        is("as in the latest that was", y.blocked(), 3);
        promise(20);
        y.terms(0, 998);
        is("to 999", y.pass(), 0);
        is("year", y.count(13), 999);
        y = under("moves 5 if cell < 3;goes if year < 1 and kind < 3 or cell = 9");
        y.put(3, 0, 1);
        y.bury(0, 2, 0);
        is("asked once, into walls too", y.pass(), 5);
        is("year 1: not into 8", y.pass(), 0);
        y = new YardYear();
        y.bury(0, 0, 0);
        y.force(law(y, "moves 0"));
        for (int i = 0; i < 100; i++) {
            y.terms(0, 979);
            orders(y, "pass times 20");
        }
        is("years stop", y.of(0, 3), 999);
        promise(21);
        y = new YardYear();
        y.bury(0, 0, 0);
        y.bury(0, 1, 0);
        y.bury(0, 2, 0);
        y.put(3, 0, 3);
        y.pass();
        is("three", y.blocked(), 3);
        y.put(3, 0, 0);
        orders(y, "pass");
        is("in orders, too", y.blocked(), 2);
    }

    private static void undoing() {
        promise(22);
        YardYear y = walled(9);
        is("none", y.undo(), -3);
        is("status", y.status(), -3);
        y.bury(1, 4, 1);
        y.bury(2, 6, 0);
        y.buy(9);
        y.pass();
        y.raise(0);
        is("can be undone", y.count(5), 5);
        is("a raise", y.undo(), 2);
        is("its cell", y.of(0, 0), 5);
        is("its family", y.of(0, 1), 1);
        is("its years", y.of(0, 3), 1);
        is("small", y.of(0, 2), 1);
        is("the other", y.of(1, 0), 7);
        is("a pass", y.undo(), 3);
        is("cells", y.of(1, 0), 6);
        is("year", y.count(13), 0);
        is("years", y.of(1, 3), 0);
        is("a buy", y.undo(), 1);
        is("not bought", y.at(9, 2), 0);
        law(y, "moves 2");
        y.force(0);
        y.find(0, 0, 0);
        y.image(0);
        is("a bury", y.undo(), 0);
        is("plots", y.count(0), 1);
        is("the law stays", y.count(12), 0);
        is("found stays", y.count(3), 1);
        y.put(40, 0, 0);
        y.terms(9, 0);
        y.row();
        y.pass();
        y.raise(5);
        is("refused ones change nothing", y.count(5), 2);
        y.put(0, 1, 0);
        is("nothing behind put", y.undo(), -3);
        y.pass();
        y.terms(3, 0);
        is("nothing behind terms", y.undo(), -3);
        y.pass();
        tape(y, 9);
        y.row();
        is("nothing behind row", y.undo(), -3);
        y.pass();
        y.back(0);
        is("nothing behind back", y.undo(), -3);
        orders(y, "pass times 10");
        orders(y, "bury 3 at 20;pass times 7");
        is("sixteen", y.count(5), 16);
        for (int i = 0; i < 16; i++) {
            is("one of orders", y.undo(), i == 7 ? 0 : 3);
        }
        is("no seventeenth", y.undo(), -3);
        is("behind two years", y.count(13), 2);
        y.put(0, 1, 0);
        orders(y, "pass times 20;pass times 20");
        for (int i = 41; i > 25; i--) {
            y.undo();
            is("each as it was", y.count(13), i);
        }
        is("no more", y.undo(), -3);
    }

    private static void whereAndIndoors() {
        promise(23);
        YardYear y = under("moves years + 1 if year < 3;moves 2 if year > 999;moves 0 if year = 1000");
        y.bury(0, 30, 0);
        int[] want = {30, 31, 1, 4, 5, 6};
        for (int n = 0; n < want.length; n++) {
            is("behind " + n, y.where(0, n), want[n]);
        }
        is("behind 100", y.where(0, 100), 5);
        is("too far", y.where(0, 101), -1);
        is("below", y.where(0, -1), -1);
        is("no plot", y.where(1, 1), -1);
        is("is not refused", y.status(), 0);
        is("on paper", y.of(0, 0), 30);
        y.terms(0, 998);
        int[] late = {30, 31, 0, 0, 2};
        for (int n = 0; n < late.length; n++) {
            is("beyond 999, " + n, y.where(0, n), late[n]);
        }
        promise(24);
        y = walled(5);
        is("no plot", y.indoors(), -1);
        y.bury(0, 2, 0);
        is("not bought", y.indoors(), -1);
        y.buy(5);
        is("behind three", y.indoors(), 3);
        y.pass();
        y.pass();
        y.pass();
        is("now", y.indoors(), 0);
        y = under("goes;moves 1 if years = 199 or years = 200");
        y.bury(0, 2, 0);
        y.force(law(y, "goes;moves 0;moves 1 if years = 199"));
        y.put(3, 0, 1);
        is("in the last year", y.indoors(), 200);
        y.force(law(y, "goes;moves 0;moves 1 if years = 200"));
        is("behind it", y.indoors(), -1);
        y = under("moves 2;goes");
        y.bury(0, 2, 0);
        y.put(3, 0, 1);
        is("through one is not in one", y.indoors(), -1);
    }

    private static void ways() {
        promise(25);
        YardYear y = walled(3, 5, 31);
        y.put(3, 1, 7);
        y.put(5, 1, 9);
        y.put(31, 1, 1);
        y.bury(0, 1, 0);
        is("there now", y.ways(0, 1, 0, 0), 0);
        is("nothing to buy", y.ways(0, 2, 1, 1), 0);
        is("one", y.ways(0, 4, 3, 0), 7);
        is("its bit", y.ways(0, 4, 3, 1), 8);
        is("two", y.ways(0, 6, 5, 0), 16);
        is("their bits", y.ways(0, 6, 5, 1), 40);
        is("too far", y.ways(0, 6, 4, 0), -1);
        is("all of them", y.ways(0, 0, 31, 0), -1);
        is("all the way", y.ways(0, 31, 30, 1), (1L << 31) + 40);
        is("its price", y.ways(0, 31, 30, 0), 17);
        is("the least is not all", y.ways(0, 30, 30, 0), 16);
        is("no plot", y.ways(1, 4, 3, 0), -1);
        is("no cell", y.ways(0, 32, 3, 0), -1);
        is("no years", y.ways(0, 4, -1, 0), -1);
        is("nothing told", y.ways(0, 4, 3, 2), -1);
        is("nothing below", y.ways(0, 4, 3, -1), -1);
        y.buy(3);
        is("bought already", y.ways(0, 4, 3, 1), 0);
        is("on paper", y.at(5, 2), 0);
        y = walled(10, 20, 21);
        y.force(law(y, "moves 1;moves 2 if bought = 1;goes"));
        y.bury(0, 0, 0);
        is("even without", y.ways(0, 10, 10, 1), 0);
        is("only at the end of a year", y.ways(0, 11, 10, 1), -1);
        is("by what is bought", y.ways(0, 12, 11, 1), 1 << 10);
        is("the lowest of one price", y.ways(0, 22, 21, 1), 1 << 10);
        y.put(10, 1, 5);
        y.put(20, 1, 5);
        is("prices even", y.ways(0, 22, 21, 0), 5);
        is("prices even: the lowest", y.ways(0, 22, 21, 1), 1 << 10);
        is("by price first", y.ways(0, 23, 22, 1), 1 << 21);
        y = walled(0, 31);
        y.bury(0, 30, 0);
        is("bits at the ends", y.ways(0, 1, 3, 1), (1L << 31) + 1);
        y = walled(11, 12, 13, 14, 15, 16, 17, 18);
        y.bury(0, 8, 0);
        is("eight", y.ways(0, 18, 10, 1), 0x7f800);
        y.put(25, 0, 1);
        is("nine", y.ways(0, 8, 10, 1), -1);
        y.buy(25);
        is("nine, one bought", y.ways(0, 8, 10, 1), 0);
    }

    private static void packing() {
        promise(26);
        YardYear y = under("digs price");
        is("no plots", y.packed(-1), 0);
        is("no plot", y.packed(0), -1);
        int[] digs = {6, 5, 4, 5, 3, 7};
        y.terms(1, 10);
        for (int i = 0; i < digs.length; i++) {
            y.put(3 * i, 1, digs[i]);
            y.bury(0, 3 * i, 0);
        }
        is("days", y.packed(-1), 3);
        int[] want = {0, 1, 0, 1, 2, 2};
        for (int i = 0; i < digs.length; i++) {
            is("day of " + i, y.packed(i), want[i]);
        }
        is("none", y.packed(6), -1);
        is("none below", y.packed(-2), -1);
        y.terms(1, 7);
        is("five days", y.packed(-1), 5);
        is("last", y.packed(5), 4);
        is("four and three", y.packed(4), 2);
        y.terms(1, 6);
        is("too long", y.packed(-1), -1);
        is("for each", y.packed(2), -1);
        y = new YardYear();
        y.terms(1, 6);
        for (int i = 0; i < 10; i++) {
            y.bury(0, i, i % 2);
        }
        is("usual digs", y.packed(-1), 5);
        is("first row", y.packed(9), 4);
        is("first row", y.packed(2), 1);
        is("first row", y.packed(1), 0);
        is("not two more ones", y.packed(3), 1);
        y = under("digs 10 - 9 * [1 - plot] * [2 - plot] / 2 - plot / 2");
        y.terms(1, 10);
        for (int i = 0; i < 3; i++) {
            y.bury(0, i, 0);
        }
        is("digs one", y.of(0, 5), 1);
        is("digs ten", y.of(1, 5), 10);
        is("digs nine", y.of(2, 5), 9);
        is("one and nine", y.packed(-1), 2);
        is("on the first", y.packed(2), 0);
        y = under("digs price");
        y.terms(1, 10);
        int[] greedy = {3, 3, 4, 6, 7, 7};
        for (int i = 0; i < greedy.length; i++) {
            y.put(i, 1, greedy[i]);
            y.bury(0, i, 0);
        }
        is("not as they come", y.packed(-1), 3);
        int[] row = {0, 1, 2, 2, 0, 1};
        for (int i = 0; i < row.length; i++) {
            is("row " + i, y.packed(i), row[i]);
        }
    }

    private static void meetings() {
        promise(27);
        YardYear y = under("moves 2 - plot if plot < 3;moves 0 if plot > 2");
        y.bury(0, 0, 0);
        y.bury(0, 4, 0);
        y.bury(0, 20, 0);
        y.bury(0, 9, 0);
        is("now none", y.meets(0, -1), 0);
        is("how many", y.meets(6, -1), 2);
        is("first", y.meets(6, 0), 413);
        is("second", y.meets(6, 1), 501);
        is("no third", y.meets(6, 2), -1);
        is("below", y.meets(6, -2), -1);
        is("too far", y.meets(61, -1), -1);
        is("years below", y.meets(-1, -1), -1);
        y = under("moves family");
        y.bury(1, 31, 0);
        y.bury(2, 30, 0);
        y.bury(0, 5, 0);
        y.bury(0, 3, 0);
        is("beside one now is no meeting", y.meets(1, -1), 0);
        is("those who come to one", y.meets(3, 0), 303);
        is("round the ring", y.meets(60, -1), 1);
        y = under("moves 1;moves 2 if family = 2");
        y.bury(1, 29, 0);
        y.bury(2, 26, 0);
        is("meets across the end", y.meets(3, 0), 201);
        y.put(10, 0, 3);
        y.bury(0, 8, 0);
        y.bury(0, 6, 0);
        is("by lower then by higher", y.meets(2, 0), 201);
        is("the other", y.meets(3, 1), 223);
    }

    private static void meeting() {
        promise(28);
        YardYear y = new YardYear();
        is("no plot", y.meet(0, 0, 5, 0), -1);
        y.bury(0, 0, 0);
        is("now: the lowest", y.meet(0, 0, 5, 0), 1);
        is("within no years", y.meet(0, 0, 0, 0), 1);
        y.bury(0, 31, 0);
        is("cell 0 is taken", y.meet(1, 0, 0, 0), 30);
        y.raise(0);
        is("cell 0", y.meet(0, 0, 0, 0), 0);
        y = new YardYear();
        y.bury(0, 0, 0);
        is("the year", y.meet(0, 0, 5, 1), 0);
        y.put(1, 0, 1);
        is("on the other side", y.meet(0, 0, 5, 0), 31);
        y.put(31, 0, 2);
        is("not on a path", y.meet(0, 0, 5, 0), 30);
        is("its year", y.meet(0, 0, 5, 1), 1);
        is("within just that", y.meet(0, 0, 1, 0), 30);
        is("not within none", y.meet(0, 0, 0, 0), -1);
        is("no family", y.meet(0, 6, 5, 0), -1);
        is("no years", y.meet(0, 0, 61, 0), -1);
        is("years below", y.meet(0, 0, -1, 0), -1);
        is("nothing told", y.meet(0, 0, 5, 2), -1);
        is("no such plot", y.meet(1, 0, 5, 0), -1);
        y.force(law(y, "bars if family = 2 and cell > 25;bars if family = 3"));
        is("where it is not barred", y.meet(0, 2, 60, 0), 25);
        is("in time", y.meet(0, 2, 60, 1), 6);
        is("barred everywhere", y.meet(0, 3, 60, 0), -1);
        is("not in time", y.meet(0, 2, 5, 0), -1);
        for (int i = 1; i < 10; i++) {
            y.bury(0, 2 * i, 0);
        }
        is("no room", y.meet(0, 0, 5, 0), -1);
        y.raise(9);
        is("room", y.meet(0, 0, 5, 0), 30);
        y = under("moves 1;moves 3 if plot = 1 and small = 0 and years > 0;bars if family = 1 and (cell < 5 or cell > 14)");
        y.bury(0, 20, 0);
        is("as the last, not small", y.meet(0, 1, 60, 1), 4);
        is("its cell", y.meet(0, 1, 60, 0), 13);
    }

    private static void findings() {
        promise(29);
        YardYear y = new YardYear();
        int[][] bad = {{-1, 0, 0}, {10, 0, 0}, {0, -1, 0}, {0, 32, 0}, {0, 0, -1}, {0, 0, 2}};
        for (int[] b : bad) {
            is("bad number", y.find(b[0], b[1], b[2]), -1);
        }
        for (int i = 1; i <= 8; i++) {
            is("how many", y.find(9, 31, 1), i);
        }
        is("no room", y.find(0, 0, 0), -5);
        is("bad ahead of no room", y.find(0, 0, 2), -1);
        is("count", y.count(3), 8);
        promise(30);
        is("how much", y.forget(), 8);
        is("nothing", y.forget(), 0);
        is("count", y.count(3), 0);
        promise(31);
        y.bury(0, 4, 0);
        y.put(9, 0, 2);
        y.put(10, 0, 1);
        is("all grass without plot", y.hidden(-1), 29);
        is("first", y.hidden(0), 0);
        is("beyond the plot", y.hidden(4), 5);
        is("last", y.hidden(28), 31);
        is("none", y.hidden(29), -1);
        is("below", y.hidden(-2), -1);
        y.find(3, 7, 1);
        is("any of them: the plot is there", y.hidden(-1), 28);
        is("but the one that is in the way", y.hidden(4), 6);
        y.find(2, 8, 1);
        is("by two", y.hidden(-1), 1);
        is("where", y.hidden(0), 6);
        y.find(1, 7, 0);
        is("against", y.hidden(-1), 0);
        is("none", y.hidden(0), -1);
        y.forget();
        y.find(9, 29, 1);
        is("late", y.hidden(0), 20);
        y.forget();
        y.force(law(y, "bars;moves 1;moves 2 if plot = 1 and family = 0 and small = 0"));
        y.find(2, 2, 1);
        is("bars aside", y.hidden(-1), 1);
        is("moves by law", y.hidden(0), 30);
        y.force(-1);
        for (int i = 0; i < 9; i++) {
            y.bury(0, 11 + i, 0);
        }
        is("no room", y.hidden(-1), -1);
    }

    private static void spades() {
        promise(32);
        YardYear y = new YardYear();
        y.bury(0, 4, 0);
        for (int c = 0; c < 32; c++) {
            if (c != 4 && c != 10 && c != 11 && c != 12) {
                y.put(c, 0, 2);
            }
        }
        is("three are hidden", y.hidden(-1), 3);
        is("where one is", y.spade(0, 0), 10);
        is("two are left", y.spade(0, 1), 2);
        is("behind years", y.spade(5, 0), 15);
        is("round the ring", y.spade(20, 0), 0);
        is("too far", y.spade(21, 0), -1);
        is("below", y.spade(-1, 0), -1);
        is("nothing told", y.spade(0, 2), -1);
        y.force(law(y, "moves cell / 11"));
        is("by where it goes", y.spade(1, 0), 10);
        y.force(law(y, "moves 2 - [cell + 1] / 12"));
        is("two come together", y.spade(1, 0), 12);
        y.find(0, 10, 1);
        is("one hidden: the lowest", y.spade(0, 0), 0);
        is("asked again", y.spade(0, 1), 1);
        is("and again", y.spade(0, 0), 0);
        is("one is left", y.spade(0, 1), 1);
        y.find(0, 10, 0);
        is("none hidden", y.spade(0, 0), -1);
        is("none hidden", y.spade(0, 1), -1);
        y = under("moves 0;moves 1 if family = 0 and small = 0 and plot = 0");
        for (int c = 0; c < 32; c++) {
            y.put(c, 0, c == 0 || c == 6 || c == 7 ? 0 : 2);
        }
        is("cell 0 counts", y.spade(0, 0), 0);
        is("now", y.spade(0, 1), 2);
        is("of family 0, not small", y.spade(3, 0), 3);
        is("as often as asked", y.spade(3, 1), 2);
        y = new YardYear();
        for (int i = 0; i < 10; i++) {
            y.bury(0, i, 0);
        }
        is("no room", y.spade(0, 0), -1);
    }

    private static void compares() {
        promise(33);
        YardYear y = under("moves 3");
        law(y, "moves 0");
        y.bury(0, 0, 0);
        y.bury(0, 10, 0);
        is("none in force", y.compare(-1, 5), 10);
        is("that in force", y.compare(0, 5), 30);
        is("another", y.compare(1, 5), 0);
        is("no such", y.compare(2, 5), -1);
        is("below", y.compare(-2, 5), -1);
        is("no years", y.compare(0, 0), -1);
        is("too many", y.compare(0, 61), -1);
        is("sixty", y.compare(0, 60), 360);
        is("one", y.compare(0, 1), 6);
        is("in force as ahead", y.of(0, 4), 3);
        is("where as ahead", y.of(0, 0), 0);
    }

    private static void arrivals() {
        promise(34);
        YardYear y = new YardYear();
        long all = 1_000_000_000_000L;
        y.bury(0, 0, 0);
        is("is there", y.arrives(0, 0, 0), all);
        is("not yet", y.arrives(0, 1, 0), 0);
        is("one of one", y.arrives(0, 1, 1), all / 10 * 8);
        is("one of three", y.arrives(0, 1, 3), all / 1000 * 992);
        is("two of three", y.arrives(0, 2, 3), all / 1000 * 896);
        is("was there", y.arrives(0, 0, 40), all);
        is("too far", y.arrives(0, 9, 8), 0);
        y.terms(2, 0);
        is("no frost", y.arrives(0, 30, 30), all);
        y.terms(2, 10);
        is("frost alone", y.arrives(0, 1, 40), 0);
        y.terms(2, 5);
        is("halves", y.arrives(0, 2, 2), all / 4);
        is("halves", y.arrives(0, 5, 12), all / 4096 * 3302);
        y.terms(2, 2);
        is("each part is cut", y.arrives(0, 1, 14), all - 165);
        y.terms(2, 0);
        is("in forty", y.arrives(0, 8, 40), all);
        y.force(law(y, "moves 0;moves 1 if years = 39"));
        is("in the fortieth", y.arrives(0, 1, 40), all);
        is("in the fortieth, again", y.arrives(0, 1, 40), all);
        y.terms(2, 1);
        is("seldom", y.arrives(0, 1, 40) > 14_000_000_000L ? 1 : 0, 1);
        y.terms(2, 2);
        is("no plot", y.arrives(1, 0, 1), -1);
        is("no cell", y.arrives(0, 32, 1), -1);
        is("too many years", y.arrives(0, 0, 41), -1);
        is("years below", y.arrives(0, 0, -1), -1);
        y.force(law(y, "moves 1 if years = 0;moves 3 if year = 1"));
        is("lost years are not there", y.arrives(0, 4, 2), all / 100 * 64);
        is("only at the end of one", y.arrives(0, 2, 20), 0);
    }

    private static void rounds() {
        promise(35);
        YardYear y = new YardYear();
        y.bury(0, 5, 0);
        is("one by one", y.round(0), 32);
        is("no plot", y.round(1), -1);
        is("below", y.round(-1), -1);
        y.force(law(y, "moves 9"));
        is("more together", y.round(0), 4);
        y.force(law(y, "moves 0"));
        is("never", y.round(0), -1);
        y.force(law(y, "moves 0;moves 8 if years > 195"));
        is("in 200", y.round(0), 200);
        y.force(law(y, "moves 0;moves 8 if years > 196"));
        is("in 201", y.round(0), -1);
        y.force(-1);
        y.put(5, 0, 0);
        y.bury(0, 6, 0);
        y.put(7, 0, 3);
        is("blocked", y.round(0), -1);
    }

    private static void centuries() {
        promise(36);
        YardYear y = new YardYear();
        is("no seed", y.centuries(-1, 5), -1);
        is("no such seed", y.centuries(1_000_001, 5), -1);
        is("no years", y.centuries(0, 0), -1);
        is("too many", y.centuries(0, 101), -1);
        is("status", y.status(), -1);
        is("one year", y.centuries(5, 1), 1);
        promise(37);
        is("its cell", y.drawn(0, 0), 28);
        is("its family", y.drawn(0, 1), 0);
        is("its years", y.drawn(0, 2), 0);
        is("nothing", y.drawn(0, 3), -1);
        is("nothing below", y.drawn(0, -1), -1);
        is("no plot", y.drawn(1, 0), -1);
        is("no plot below", y.drawn(-1, 0), -1);
        is("on paper", y.count(0), 0);
        y.centuries(5, 200);
        is("a refused one is not the latest", y.drawn(0, 0), 28);
        promise(36);
        drawnByHand(0, 100);
        drawnByHand(1_000_000, 37);
        drawnByHand(4711, 60);
        y = new YardYear();
        y.terms(0, 998);
        y.bury(3, 7, 0);
        is("one year until 999", y.centuries(77, 100), 2);
        is("one year", y.drawn(0, 2), 1);
        y.terms(0, 999);
        is("none at 999", y.centuries(77, 100), 1);
        is("as it lay", y.drawn(0, 0), 7);
        y.terms(0, 0);
        y.terms(2, 10);
        y.force(law(y, "bars"));
        is("all barred", y.centuries(3, 100), 1);
        is("frost alone", y.drawn(0, 0), 7);
        is("but years", y.drawn(0, 2), 100);
        y.force(law(y, "moves small"));
        y.bury(0, 20, 0);
        y.terms(0, 900);
        y.terms(2, 0);
        is("ten", y.centuries(8, 99), 10);
        int early = y.drawn(2, 0);
        is("also by that law", y.centuries(8, 98), 10);
        is("not small: it stays", y.drawn(2, 0), early);
        y.undo();
        y.raise(1);
        y.terms(0, 0);
        y.force(0);
        y.centuries(3, 100);
        is("no frost", y.drawn(0, 0), (7 + 100) % 32);
    }

    /** A ring of grass without plots, all moves by ones: who lies where is plain. */
    private static void drawnByHand(int seed, int n) {
        YardYear y = new YardYear();
        int got = y.centuries(seed, n);
        long[] s = {seed};
        int[][] plots = new int[10][];
        int count = 0;
        for (int year = 0; year < n; year++) {
            boolean frost = draw(s, 10) < 2;
            for (int i = 0; i < count; i++) {
                int east = (plots[i][0] + 1) % 32;
                boolean free = true;
                for (int j = 0; j < count; j++) {
                    free &= plots[j][0] != east;
                }
                plots[i][0] = !frost && free ? east : plots[i][0];
                plots[i][2]++;
            }
            int cell = draw(s, 32);
            int family = draw(s, 6);
            boolean free = count < 10;
            for (int j = 0; j < count; j++) {
                free &= plots[j][0] != cell;
            }
            if (free) {
                plots[count++] = new int[] {cell, family, 0};
            }
        }
        is("plots", got, count);
        for (int i = 0; i < count; i++) {
            for (int what = 0; what < 3; what++) {
                is("drawn " + i + " " + what, y.drawn(i, what), plots[i][what]);
            }
        }
    }

    private static int draw(long[] s, int m) {
        s[0] = (s[0] * 1103 + 12345) % 1_000_003;
        return (int) (s[0] % m);
    }

    private static void images() {
        promise(38);
        YardYear y = walled(3, 8);
        is("no image", y.image(-1), -1);
        is("no image", y.image(2), -1);
        promise(39);
        is("no image", y.back(2), -1);
        is("no image below", y.back(-1), -1);
        is("not kept", y.back(0), -2);
        is("status", y.status(), -2);
        promise(38);
        y.put(3, 1, 9);
        y.buy(3);
        y.bury(2, 1, 1);
        y.find(1, 2, 0);
        law(y, "moves 2;moves 8 if years = 500;moves 9 if years = 501;goes;bars if cell = 20;digs [year + 2] * 7 % 100");
        y.force(0);
        y.terms(3, 4);
        y.pass();
        is("kept", y.image(1), 0);
        is("to be undone as ahead", y.count(5), 1);
        promise(39);
        is("the other is not", y.back(0), -2);
        y.undo();
        y.put(3, 0, 2);
        y.put(3, 1, 1);
        y.put(8, 0, 0);
        y.bury(0, 9, 0);
        y.forget();
        y.find(4, 4, 1);
        y.find(4, 5, 1);
        law(y, "moves 5;moves 6 if years > 500;moves 7 if years > 501;digs 3 + 3 * 2");
        y.force(1);
        y.terms(0, 44);
        y.terms(1, 4);
        y.terms(2, 4);
        y.terms(3, 8);
        y.image(0);
        y.centuries(5, 1);
        law(y, "moves x");
        tape(y, 9, 9, 9);
        y.row();
        orders(y, "raise 9");
        y.pass();
        tape(y, "goes;moves 7 % 8 % 9;digs 4 % 5 - 1 - 1 / 1 / 1 - 1 - 1 - 1");
        int refused = y.count(9);
        is("back", y.back(1), 0);
        is("bought", y.at(3, 2), 1);
        is("price", y.at(3, 1), 9);
        is("wall", y.at(8, 0), 1);
        is("plots", y.count(0), 1);
        is("cell", y.of(0, 0), 3);
        is("small", y.of(0, 2), 1);
        is("years", y.of(0, 3), 1);
        is("found", y.count(3), 1);
        is("laws", y.count(4), 1);
        is("in force", y.count(12), 0);
        is("by law", y.of(0, 4), 2);
        is("by all of it", y.goes(0, 8), 1);
        is("to its end", y.of(0, 5), 21);
        is("barred", y.barred(1, 20), 1);
        is("barred there alone", y.barred(1, 21), 0);
        is("what was found", y.hidden(-1), 29);
        is("where it was", y.hidden(0), 1);
        is("year", y.count(13), 1);
        is("light", y.count(14), 20);
        is("frost", y.count(15), 2);
        is("mood", y.count(16), 4);
        is("nothing to undo", y.count(5), 0);
        is("the tape stays", y.count(6), 59);
        is("fault stays", y.fault(), -1);
        is("stopped stays", y.stopped(), 0);
        is("moles stay", y.moles(), 2);
        is("blocked stays", y.blocked(), 0);
        is("centuries stay", y.drawn(0, 0) < 0 ? 0 : 1, 1);
        is("refusals stay", y.count(9), refused);
        is("a law in the free place", y.law(), 1);
        y.force(1);
        is("is that", y.of(0, 4), 7);
        is("back to the other", y.back(0), 0);
        is("its laws", y.count(4), 2);
        is("its law", y.of(0, 4), 5);
        is("to its end", y.of(0, 5), 9);
        is("its year", y.count(13), 44);
        is("its kind", y.at(3, 0), 2);
        is("images stay", y.back(1), 0);
        is("in force", y.of(0, 4), 2);
        y.pass();
        is("again", y.image(1), 0);
        is("years", y.of(0, 3), 2);
        y.pass();
        y.back(1);
        is("the later one", y.of(0, 3), 2);
        y.force(-1);
        y.image(0);
        y.force(0);
        y.back(0);
        is("none in force", y.of(0, 4), 1);
        is("none", y.count(12), -1);
    }

    private static void counts() {
        promise(40);
        YardYear y = walled(0, 31);
        is("walls at both ends", y.count(1), 2);
        y.buy(0);
        y.buy(31);
        is("both bought", y.count(2), 2);
        y = walled(3, 8, 12);
        y.buy(8);
        y.bury(0, 0, 0);
        y.bury(0, 1, 0);
        y.find(0, 0, 0);
        law(y, "goes");
        law(y, "bars");
        y.force(1);
        y.put(99, 0, 0);
        y.force(5);
        y.force(6);
        y.buy(8);
        y.buy(8);
        y.buy(8);
        for (int i = 0; i < 7; i++) {
            y.find(1, 1, 1);
        }
        for (int i = 0; i < 4; i++) {
            y.find(1, 1, 1);
        }
        for (int i = 0; i < 5; i++) {
            y.row();
        }
        y.feed(0, 0, 0, 0, 0);
        int[] want = {2, 3, 1, 8, 2, 3, 20, 1, 2, 3, 4, 5, 1, 0, 20, 2, 0, -1};
        for (int i = 0; i < want.length; i++) {
            is("count " + i, y.count(i), want[i]);
        }
        is("below", y.count(-1), -1);
        is("far", y.count(Integer.MAX_VALUE), -1);
        is("far below", y.count(Integer.MIN_VALUE), -1);
        y.at(99, 99);
        y.end(99);
        y.where(99, 99);
        is("answers of none are not refused", y.count(7), 1);
    }

    private static void statuses() {
        promise(41);
        YardYear y = new YardYear();
        is("ahead of any", y.status(), 0);
        y.put(99, 0, 0);
        is("put", y.status(), -1);
        y.at(99, 0);
        y.of(0, 0);
        y.goes(0, 0);
        y.barred(0, 0);
        y.feed(0, 0, 0, 0, 0);
        y.end(0);
        y.moles();
        y.fault();
        y.stopped();
        y.blocked();
        y.where(0, 0);
        y.indoors();
        y.ways(0, 0, 0, 0);
        y.packed(-1);
        y.meets(0, -1);
        y.meet(0, 0, 0, 0);
        y.forget();
        y.hidden(-1);
        y.spade(0, 0);
        y.compare(-1, 1);
        y.arrives(0, 0, 0);
        y.round(0);
        y.drawn(0, 0);
        y.count(0);
        is("questions aside", y.status(), -1);
        y.put(0, 0, 0);
        is("put done", y.status(), 0);
        y.terms(9, 0);
        is("terms", y.status(), -1);
        y.terms(0, 0);
        is("terms done", y.status(), 0);
        y.row();
        is("row", y.status(), -6);
        y.force(-1);
        is("force done, though none was", y.status(), 0);
        y.law();
        is("law", y.status(), -6);
        law(y, "goes");
        is("law done", y.status(), 0);
        y.orders();
        is("orders", y.status(), -6);
        orders(y, "pass");
        is("orders done", y.status(), 0);
        y.force(4);
        is("force", y.status(), -2);
        y.bury(0, 0, 0);
        is("bury done", y.status(), 0);
        y.bury(0, 0, 0);
        is("bury", y.status(), -3);
        y.undo();
        is("undo done", y.status(), 0);
        y.buy(0);
        is("buy", y.status(), -3);
        y.pass();
        is("pass done", y.status(), 0);
        y.raise(0);
        is("raise", y.status(), -2);
        y.find(0, 0, 0);
        is("find done", y.status(), 0);
        y.find(0, 0, 9);
        is("find", y.status(), -1);
        y.centuries(1, 1);
        is("centuries done", y.status(), 0);
        y.centuries(1, 0);
        is("centuries", y.status(), -1);
        y.image(0);
        is("image done", y.status(), 0);
        y.image(5);
        is("image", y.status(), -1);
        y.back(0);
        is("back done", y.status(), 0);
        y.back(1);
        is("back", y.status(), -2);
        is("refused orders", orders(y, "raise 0"), -3);
        is("orders", y.status(), -3);
    }
}
