import java.util.List;

/**
 * Promises 4 to 6 and 12 to 15, and what the document says of TEXTS: for each sentence that names a boundary case
 * (too small, too large, empty, full, refused) a test of its own.
 */
public final class TextEdgeTest extends YardTest {
    private static final int LAW = 12;
    private static final int ORDERS = 13;
    private static final int FAULT = 14;

    public static void main(String[] args) {
        tokens();
        numbers();
        clauses();
        parts();
        brackets();
        endOfText();
        timesAndPlaces();
        sums();
        tests();
        movesAndDigs();
        goesAndBars();
        lawsThatAreFull();
        lawsThatAreRefused();
        ordersThatRun();
        ordersThatCannotBe();
        ordersAreUndone();
        faults();
        stops();
        report("TextEdgeTest");
    }

    /** Whether a LAW, ORDERS can be read; the FAULT of one that can't be (NONE of one that can). */
    private static void reads(int of, String text, int fault) {
        YardYear y = new YardYear();
        tape(y, text);
        int answer = of == LAW ? y.law() : y.orders();
        is("<" + text + ">: read", answer == -6 ? 0 : 1, fault < 0 ? 1 : 0);
        is("<" + text + ">: status()", y.status() == -6 ? 0 : 1, fault < 0 ? 1 : 0);
        is("<" + text + ">: fault()", y.fault(), fault);
        is("<" + text + ">: bytes of the TAPE", y.count(6), 0);
        is("<" + text + ">: LAWS", y.count(4), of == LAW && fault < 0 ? 1 : 0);
    }

    private static void tokens() {
        edge(FAULT, "longest rows of letters a .. z", y -> {
            reads(LAW, "goesif 1=1", 0);
            reads(LAW, "goes ifnot 1=1", 5);
            reads(LAW, "agoes", 0);
            reads(LAW, "goesz", 0);
            reads(LAW, "goes`", 4);
            reads(LAW, "goes{", 4);
            reads(LAW, "goe", 0);
            reads(LAW, "goess", 0);
            reads(LAW, "g oes", 0);
            reads(LAW, "digs pric", 5);
            reads(LAW, "digs pricey", 5);
            reads(LAW, "digs years+year", -1);
            reads(ORDERS, "passes", 0);
        });
        edge(FAULT, "of digits", y -> {
            reads(LAW, "moves2", -1);
            reads(LAW, "moves 1 0", 8);
            reads(LAW, "goes if1=1or2=2", -1);
            reads(ORDERS, "buy at0+kind31", -1);
        });
        edge(FAULT, "single other bytes", y -> {
            reads(LAW, "goes if 1<=2", 10);
            reads(LAW, "goes if 1<>2", 10);
            reads(LAW, "goes;;goes", 5);
            reads(LAW, "goes if((1=1))and((2=2))", -1);
        });
        edge(FAULT, "any blanks (32) between: no other byte is one", y -> {
            reads(LAW, "   goes   if  1   =   1   ", -1);
            reads(LAW, "goes\tif 1=1", 4);
            reads(LAW, "goes\n", 4);
            reads(LAW, "goes\u0000", 4);
            reads(LAW, "\u00ffgoes", 0);
            reads(LAW, "goes \u00a0", 5);
            reads(LAW, "goes `", 5);
            reads(LAW, "goes {", 5);
            reads(LAW, "moves 1/", 8);
            reads(LAW, "moves 1:", 7);
            reads(LAW, "Goes", 0);
            reads(LAW, "goeS", 0);
        });
    }

    private static void numbers() {
        edge(FAULT, "NUMBER (to 1,000)", y -> {
            reads(LAW, "moves 0", -1);
            reads(LAW, "moves 1000", -1);
            reads(LAW, "moves 1001", 6);
            reads(LAW, "moves 10000", 6);
            reads(LAW, "moves 4294967296", 6);
            reads(LAW, "moves 18446744073709551617", 6);
            reads(LAW, "moves " + "9".repeat(390), 6);
            reads(LAW, "goes if 1 = 1001", 12);
            reads(ORDERS, "raise 1000 if 1=2", -1);
            reads(ORDERS, "raise 1001 if 1=2", 6);
        });
        edge(FAULT, "NUMBER (to 1,000): with noughts ahead", y -> {
            reads(LAW, "moves 0001000", -1);
            reads(LAW, "moves " + "0".repeat(390) + "7", -1);
            reads(LAW, "moves 0001001", 6);
        });
        edge(FAULT, "no NUMBER is below 0", y -> {
            reads(LAW, "moves -1", 6);
            reads(LAW, "moves 0-1", -1);
        });
    }

    private static void clauses() {
        String goes = "goes" + ";goes".repeat(11);
        edge(FAULT, "CLAUSE {\";\" CLAUSE}, 12 at most (FAULT at the 13th's first TOKEN), of a LAW", y -> {
            reads(LAW, goes, -1);
            reads(LAW, goes + ";goes", 60);
            reads(LAW, goes + " ;  goes", 63);
            reads(LAW, goes + ";zz", 60);
            reads(LAW, goes + "; ;", 61);
        });
        edge(FAULT, "behind the 12th CLAUSE only the end can come", y -> {
            reads(LAW, goes + ";", 60);
            reads(LAW, goes + ";  ", 62);
            reads(LAW, goes + "  ", -1);
            reads(LAW, goes + " goes", 60);
        });
        String pass = "pass" + ";pass".repeat(11);
        edge(FAULT, "12 at most (FAULT at the 13th's first TOKEN), of ORDERS", y -> {
            reads(ORDERS, pass, -1);
            reads(ORDERS, pass + ";pass", 60);
            reads(ORDERS, pass + ";", 60);
            is("all twelve are run", orders(y, pass), 12);
            is("thirteen are not", orders(y, pass + "; pass"), -6);
            is("YEAR", y.count(13), 12);
        });
        edge(FAULT, "a CLAUSE can't be empty", y -> {
            reads(LAW, ";goes", 0);
            reads(LAW, "goes;", 5);
            reads(LAW, "goes; ;goes", 6);
            reads(ORDERS, "pass;", 5);
        });
    }

    private static void parts() {
        String fifty = "moves 1" + "+1".repeat(24) + ";digs year" + "+plot".repeat(24);
        edge(FAULT, "50 PARTS that are NUMBERS and words (FAULT at the 51st), of a LAW", y -> {
            reads(LAW, fifty, -1);
            reads(LAW, fifty + "+7", fifty.length() + 1);
            reads(LAW, fifty + " *  cell", fifty.length() + 4);
            reads(LAW, fifty + ";goes if 1=1", fifty.length() + 9);
            reads(LAW, fifty + ";goes", -1);
        });
        edge(FAULT, "50 PARTS of each TEXT: not of all TEXTS together", y -> {
            for (int i = 0; i < 6; i++) {
                is("law " + i, law(y, fifty), i);
            }
            for (int i = 0; i < 20; i++) {
                is("orders", orders(y, "raise 0" + "+plots".repeat(49) + " if 1 = 2"), -6);
                is("orders", orders(y, "raise 0" + "+plots".repeat(47) + " if 1 = 2"), 0);
                is("orders", orders(y, "pass if 0" + "+plots".repeat(48) + " = 0"), 1);
            }
        });
        edge(FAULT, "brackets are no PARTS that are NUMBERS or words", y -> {
            reads(LAW, "moves [1]" + "+[1]".repeat(49), -1);
            reads(LAW, "moves [1]" + "+[1]".repeat(49) + "+[1]", 207);
        });
        String orders = "buy 1" + "+1".repeat(24) + " times 3 if at 9" + "+kind 7".repeat(12) + "+bought 31".repeat(11) + "=0";
        edge(FAULT, "P, C, TIMES aside, of ORDERS", y -> {
            reads(ORDERS, orders, -1);
            reads(ORDERS, orders + "+at 3", orders.length() + 1);
            reads(ORDERS, orders + "+3", orders.length() + 1);
            reads(ORDERS, orders + ";pass times 20", -1);
            reads(ORDERS, "bury 1" + "+1".repeat(48) + " at 3", -1);
            reads(ORDERS, "bury 1" + "+1".repeat(49) + " at 3", 108);
            reads(ORDERS, "bury 1" + "+1".repeat(49) + "+ at 3", 106);
        });
    }

    private static void brackets() {
        edge(FAULT, "8 brackets of both kinds within one another (FAULT at the 9th)", y -> {
            reads(LAW, "moves " + "[".repeat(8) + "1" + "]".repeat(8), -1);
            reads(LAW, "moves " + "[".repeat(9) + "1" + "]".repeat(9), 14);
            reads(LAW, "goes if " + "(".repeat(8) + "1=1" + ")".repeat(8), -1);
            reads(LAW, "goes if " + "(".repeat(9) + "1=1" + ")".repeat(9), 16);
            reads(LAW, "goes if (((([[[[1]]]]=1))))", -1);
            reads(LAW, "goes if (((([[[[[1]]]]]=1))))", 16);
            reads(LAW, "goes if ((((1=[[[[[1]]]]]))))", 18);
            reads(ORDERS, "raise " + "[".repeat(8) + "1" + "]".repeat(8) + " if 1=2", -1);
            reads(ORDERS, "raise " + "[".repeat(9) + "1" + "]".repeat(9), 14);
        });
        edge(FAULT, "8 brackets: those that are closed are not within", y -> {
            reads(LAW, "moves [1]+[2]+[3]+[4]+[5]+[6]+[7]+[8]+[9]+[10]", -1);
            String eight = "[".repeat(8) + "1" + "]".repeat(8);
            reads(LAW, "goes if " + eight + "=" + eight + " and " + eight + "<" + eight, -1);
        });
        edge(FAULT, "each kind is closed by its own", y -> {
            reads(LAW, "moves [1", 8);
            reads(LAW, "moves [1)", 8);
            reads(LAW, "moves (1)", 6);
            reads(LAW, "moves 1]", 7);
            reads(LAW, "moves []", 7);
            reads(LAW, "goes if (1=1", 12);
            reads(LAW, "goes if (1=1]", 12);
            reads(LAW, "goes if 1=1)", 11);
            reads(LAW, "goes if ()", 9);
            reads(LAW, "goes if [1=1]", 10);
            reads(LAW, "goes if (1)=1", 10);
        });
    }

    private static void endOfText() {
        edge(LAW, "-6 (blanks alone: FAULT at the end)", y -> {
            reads(LAW, " ", 1);
            reads(LAW, "     ", 5);
            reads(LAW, " ".repeat(400), 400);
        });
        edge(LAW, "-6: nothing at all", y -> {
            reads(LAW, "", 0);
            is("law()", y.law(), -6);
            is("fault()", y.fault(), 0);
        });
        edge(ORDERS, "-6 (as for law())", y -> {
            reads(ORDERS, "", 0);
            reads(ORDERS, "  ", 2);
            reads(ORDERS, " ".repeat(400), 400);
        });
        edge(FAULT, "the end's: the TEXT's length", y -> {
            reads(LAW, "moves", 5);
            reads(LAW, "moves   ", 8);
            reads(LAW, "moves 1 +", 9);
            reads(LAW, "goes if", 7);
            reads(LAW, "goes if 1", 9);
            reads(LAW, "goes if 1 < ", 12);
            reads(LAW, "goes if not", 11);
            reads(LAW, "goes if 1=1 or ", 15);
            reads(LAW, "goes if 1=1 and", 15);
            reads(ORDERS, "bury", 4);
            reads(ORDERS, "bury 1", 6);
            reads(ORDERS, "bury 1 at", 9);
            reads(ORDERS, "bury 1 3 4", 7);
            reads(ORDERS, "buy at", 6);
            reads(ORDERS, "buy kind ", 9);
            reads(ORDERS, "pass times", 10);
        });
        edge(FAULT, "a TEXT of all 400 bytes", y -> {
            reads(LAW, "moves 1" + " ".repeat(393), -1);
            reads(LAW, " ".repeat(393) + "moves 1", -1);
            reads(LAW, " ".repeat(395) + "moves", 400);
            reads(LAW, " ".repeat(399) + "x", 399);
            reads(LAW, " ".repeat(399) + "m", 399);
            reads(LAW, " ".repeat(397) + "mov", 397);
            reads(LAW, "goes" + " ".repeat(395) + "i", 399);
            reads(LAW, "digs" + " ".repeat(395) + "1", -1);
            reads(ORDERS, "buy " + " ".repeat(393) + "kin", 397);
            reads(LAW, "goes if " + "not ".repeat(97) + "1=1 ", -1);
            reads(ORDERS, "pass" + " ".repeat(396), -1);
        });
    }

    private static void timesAndPlaces() {
        edge(ORDERS, "TIMES: a NUMBER 1 .. 20", y -> {
            reads(ORDERS, "pass times 0", 11);
            reads(ORDERS, "pass times 1", -1);
            reads(ORDERS, "pass times 20", -1);
            reads(ORDERS, "pass times 21", 11);
            reads(ORDERS, "pass times 020", -1);
            reads(ORDERS, "pass times 4294967297", 11);
            reads(ORDERS, "pass times year", 11);
            reads(ORDERS, "pass times [2]", 11);
            is("once", orders(y, "pass times 1"), 1);
            is("twenty", orders(y, "pass times 20"), 20);
            is("once without", orders(y, "pass"), 1);
            is("YEAR", y.count(13), 22);
        });
        edge(ORDERS, "\"at\" P (P: a NUMBER 0 .. 9)", y -> {
            reads(ORDERS, "raise 1 if at 0 = at 9 and 1=2", -1);
            reads(ORDERS, "raise at 10", 9);
            reads(ORDERS, "raise at 009 if 1=2", -1);
            reads(ORDERS, "raise at plots", 9);
            reads(ORDERS, "raise at [1]", 9);
            reads(ORDERS, "raise at at 1", 9);
        });
        for (String word : new String[] {"kind", "bought"}) {
            int n = word.length();
            edge(ORDERS, "\"" + word + "\" C (C: 0 .. 31)", y -> {
                reads(ORDERS, "pass if " + word + " 0 = " + word + " 31", -1);
                reads(ORDERS, "buy " + word + " 32", 5 + n);
                reads(ORDERS, "buy " + word + " 4294967296", 5 + n);
                reads(ORDERS, "buy " + word + " year", 5 + n);
                reads(ORDERS, "buy " + word, 4 + n);
            });
        }
        edge(ORDERS, "[\"times\" TIMES] [\"if\" TEST]: in that order, each once", y -> {
            reads(ORDERS, "pass times 2 if 1=1", -1);
            reads(ORDERS, "pass if 1=1 times 2", 12);
            reads(ORDERS, "pass times 2 times 2", 13);
            reads(ORDERS, "pass if 1=1 if 1=1", 12);
            reads(LAW, "goes times 2", 5);
            reads(LAW, "goes if 1=1 if 1=1", 12);
        });
        edge(FAULT, "words of one language are none of the other", y -> {
            reads(LAW, "pass", 0);
            reads(LAW, "digs plots", 5);
            reads(LAW, "digs done", 5);
            reads(LAW, "digs kind 3", 10);
            reads(ORDERS, "goes", 0);
            reads(ORDERS, "raise plot", 6);
            reads(ORDERS, "raise mood", 6);
            reads(ORDERS, "raise years", 6);
        });
    }

    /** What a SUM comes to at most 99, at least 1; 77 if it is BROKEN. */
    private static void comesTo(String sum, int want) {
        YardYear y = under("digs 77; digs " + sum);
        lay(y, 0);
        is("<" + sum + ">", y.of(0, 5), want);
    }

    private static void sums() {
        edge(4, "beyond 1,000,000,000 a SUM is BROKEN", y -> {
            comesTo("1000*1000*1000 / 1000 / 1000 / 20", 50);
            comesTo("[1000*1000*1000 + 1] * 0 + 5", 77);
            comesTo("[1000*1000*999 + 1000*1000] * 0 + 5", 5);
            comesTo("[1000*1000*999 + 1000*1000 + 1] * 0 + 5", 77);
            comesTo("1000*1000*1000*2 * 0 + 5", 77);
            comesTo("1000*1000*1000*1000*1000*1000*1000*1000 * 0 + 5", 77);
            comesTo("1000*1000*1000", 99);
        });
        edge(4, "either way", y -> {
            comesTo("[0 - 1000*1000*1000] * 0 + 5", 5);
            comesTo("[0 - 1000*1000*1000 - 1] * 0 + 5", 77);
            comesTo("[0-1000]*1000*1000 * 0 + 5", 5);
            comesTo("[0-1000]*1000*1000*1000 * 0 + 5", 77);
            comesTo("0 - 1000*1000*1000", 1);
        });
        edge(4, "or divided by 0", y -> {
            comesTo("5 / 0", 77);
            comesTo("5 % 0", 77);
            comesTo("0 / 0", 77);
            comesTo("0 % 0", 77);
            comesTo("5 / [1 - 1]", 77);
            comesTo("5 % [1 - 1]", 77);
            comesTo("0 * [5 / 0]", 77);
            comesTo("5 + 0 / 5", 5);
        });
        edge(4, "/ cut towards 0, % what is left then", y -> {
            comesTo("7 / 2", 3);
            comesTo("10 + [0-7] / 2", 7);
            comesTo("10 + 7 / [0-2]", 7);
            comesTo("[0-7] / [0-2]", 3);
            comesTo("10 + [0-7] % 2", 9);
            comesTo("10 + 7 % [0-2]", 11);
            comesTo("10 + [0-7] % [0-2]", 9);
            comesTo("10 + [0-1] / 2", 10);
            comesTo("[0-1000]*1000*1000 / [0-1]", 99);
        });
    }

    private static void isSo(String test, int want) {
        YardYear y = under("digs 10; digs 11 if " + test);
        lay(y, 0);
        is("<" + test + ">", y.of(0, 5) - 10, want);
    }

    private static void tests() {
        edge(4, "beyond 1,000,000,000 either way, or divided by 0, a TEST is BROKEN", y -> {
            isSo("1000*1000*1000 > 0", 1);
            isSo("1000*1000*1000 + 1 > 0", 0);
            isSo("not 1000*1000*1000 + 1 < 0", 0);
            isSo("0 - 1000*1000*1000 < 0", 1);
            isSo("0 - 1000*1000*1000 - 1 < 0", 0);
            isSo("not 0 - 1000*1000*1000 - 1 > 0", 0);
            isSo("1 / 0 = 1 / 0", 0);
            isSo("not 1 / 0 = 1", 0);
            isSo("not 1 = 1 % 0", 0);
        });
        edge(4, "\"or\", \"and\" ask what stands behind only if it can still matter", y -> {
            isSo("1 = 1 or 1 / 0 = 1", 1);
            isSo("1 = 2 and 1 / 0 = 1 or 1 = 1", 1);
            isSo("not (1 = 2 and 1 / 0 = 1)", 1);
            isSo("1 = 1 or 1 = 1 and 1 / 0 = 1", 1);
            isSo("(1 = 1 or 1 / 0 = 1) and 2 = 2", 1);
        });
        edge(4, "a part that was asked and is BROKEN makes all of it BROKEN", y -> {
            isSo("1 / 0 = 1 or 1 = 1", 0);
            isSo("1 = 2 or 1 / 0 = 1 or 1 = 1", 0);
            isSo("not (1 / 0 = 1 and 1 = 2)", 0);
            isSo("not (1 = 1 and 1 / 0 = 1)", 0);
            isSo("not (not 1 / 0 = 1)", 0);
            isSo("(1 = 2 or 1 / 0 = 1) or 1 = 1", 0);
        });
        edge(4, "as many PARTS as can be in one TEST", y -> {
            isSo("1=1" + " and 1=1".repeat(23), 1);
            isSo("1=1" + " and 1=1".repeat(22) + " and 1=2", 0);
            isSo("1=2" + " or 1=2".repeat(22) + " or 1=1", 1);
            isSo("1=2" + " or 1=2".repeat(23), 0);
            isSo("not ".repeat(85) + "1=2", 1);
            isSo("not (not (not (not (not (not (not (not 1=1)))))))", 1);
        });
        edge(4, "even is neither less nor more", y -> {
            isSo("5 < 5", 0);
            isSo("5 > 5", 0);
            isSo("5 = 5", 1);
            isSo("4 < 5", 1);
            isSo("5 > 4", 1);
            isSo("0 - 1 < 0", 1);
            isSo("not 5 < 5", 1);
            isSo("not 5 > 5", 1);
            isSo("not 5 = 5", 0);
            isSo("not 5 = 4", 1);
        });
    }

    private static void tells(String law, int what, int want) {
        YardYear y = under(law);
        lay(y, 0);
        is("<" + law + ">: of(0, " + what + ")", y.of(0, what), want);
    }

    private static void movesAndDigs() {
        edge(4, "MOVES 0 .. 9 (else the nearest)", y -> {
            tells("moves 0", 4, 0);
            tells("moves 9", 4, 9);
            tells("moves 10", 4, 9);
            tells("moves 0 - 1", 4, 0);
            tells("moves 1000*1000*1000", 4, 9);
            tells("moves 0 - 1000*1000*1000", 4, 0);
        });
        edge(4, "1 without", y -> {
            tells("digs 5", 4, 1);
            tells("moves 5 if 1 = 2", 4, 1);
            tells("moves 5 if 1 / 0 = 1", 4, 1);
            tells("moves 1 / 0", 4, 1);
        });
        edge(4, "DIGS 1 .. 99 (else the nearest)", y -> {
            tells("digs 1", 5, 1);
            tells("digs 99", 5, 99);
            tells("digs 100", 5, 99);
            tells("digs 0", 5, 1);
            tells("digs 0 - 1", 5, 1);
            tells("digs 1000*1000*1000", 5, 99);
            tells("digs 0 - 1000*1000*1000", 5, 1);
        });
        edge(4, "4 without, 2 if SMALL", y -> {
            tells("moves 5", 5, 4);
            tells("digs 7 if 1 = 2", 5, 4);
            tells("digs 1 / 0", 5, 4);
            y.bury(0, 0, 1);
            is("without a LAW", y.of(0, 5), 2);
            y.force(law(y, "digs 7 if small = 0"));
            is("none HOLDS", y.of(0, 5), 2);
            y.force(law(y, "digs 7"));
            is("one HOLDS", y.of(0, 5), 7);
        });
        edge(4, "the last \"moves\" that HOLDS", y -> {
            tells("moves 2;moves 3", 4, 3);
            tells("moves 2;moves 3 if 1 = 2", 4, 2);
            tells("moves 2;moves 3 if 1 / 0 = 1", 4, 2);
            tells("moves 2;moves 1 / 0", 4, 2);
            tells("moves 2;moves 3;moves 4;moves 5;moves 6;moves 7;moves 8;moves 9;moves 1;moves 2;moves 3;moves 4", 4, 4);
            tells("moves 2;digs 9", 4, 2);
        });
    }

    private static void goesAndBars() {
        edge(5, "if the LAW in FORCE has a CLAUSE of \"goes\" and one HOLDS", y -> {
            lay(y, 0);
            y.put(3, 0, 3);
            y.force(law(y, "goes if cell = 3;goes if cell = 4"));
            is("water", y.goes(0, 3), 1);
            is("the other", y.goes(0, 4), 1);
            is("none HOLDS", y.goes(0, 5), 0);
            y.force(law(y, "goes if 1 / 0 = 1"));
            is("a BROKEN one", y.goes(0, 5), 0);
        });
        edge(5, "without such a CLAUSE (or a LAW), if it is grass, path, or a wall that is BOUGHT", y -> {
            lay(y, 0);
            y.put(1, 0, 1);
            y.put(2, 0, 2);
            y.put(3, 0, 3);
            y.put(4, 0, 1);
            y.buy(4);
            int[] want = {1, 0, 1, 0, 1};
            for (int cell = 0; cell < 5; cell++) {
                is("without a LAW", y.goes(0, cell), want[cell]);
            }
            y.force(law(y, "moves 2;digs 3;bars"));
            for (int cell = 0; cell < 5; cell++) {
                is("without such a CLAUSE", y.goes(0, cell), want[cell]);
            }
        });
        edge(6, "a FAMILY that would be buried (plot, small -1, years 0)", y -> {
            y.bury(3, 7, 1);
            y.pass();
            y.force(law(y, "bars if plot = 0 - 1 and small = 0 - 1 and years = 0 and family = 3 and cell = 7"));
            is("barred(3, 7)", y.barred(3, 7), 1);
            is("barred(3, 8)", y.barred(3, 8), 0);
            is("barred(2, 7)", y.barred(2, 7), 0);
        });
        edge(6, "is BARRED, if \"bars\" HOLDS", y -> {
            is("without a LAW", y.barred(0, 0), 0);
            y.force(law(y, "moves 2;goes"));
            is("without such a CLAUSE", y.barred(0, 0), 0);
            y.force(law(y, "bars if 1 / 0 = 1"));
            is("a BROKEN one", y.barred(0, 0), 0);
            y.force(law(y, "bars if 1 = 2;bars if 1 = 1;bars if 1 / 0 = 1"));
            is("one of them", y.barred(0, 0), 1);
            y.force(-1);
            is("by none any more", y.barred(0, 0), 0);
        });
    }

    private static void lawsThatAreFull() {
        edge(LAW, "LAWS, 6 at most; -5", y -> {
            for (int i = 0; i < 6; i++) {
                is("law " + i, law(y, "moves " + i), i);
                is("count(4)", y.count(4), i + 1);
            }
            is("a seventh", law(y, "moves 6"), -5);
            is("status()", y.status(), -5);
            is("count(4)", y.count(4), 6);
            lay(y, 0);
            y.force(5);
            is("the sixth is as it was", y.of(0, 4), 5);
        });
        edge(LAW, "-5 (ahead of reading it; the TAPE is empty then, too)", y -> {
            law(y, "goes x");
            for (int i = 0; i < 6; i++) {
                law(y, "goes");
            }
            is("fault()", y.fault(), -1);
            is("no TEXT", law(y, "goes if"), -5);
            is("not read", y.fault(), -1);
            is("count(6)", y.count(6), 0);
            is("blanks alone", law(y, "   "), -5);
            is("an empty TAPE", y.law(), -5);
            is("by -6", y.count(11), 1);
            is("by -5", y.count(10), 3);
        });
        edge(LAW, "back() makes room for LAWS", y -> {
            for (int i = 0; i < 5; i++) {
                law(y, "goes");
            }
            y.image(0);
            law(y, "goes");
            is("no room", law(y, "goes"), -5);
            y.back(0);
            is("room for one", law(y, "moves 7"), 5);
            is("no room", law(y, "goes"), -5);
        });
    }

    private static void lawsThatAreRefused() {
        edge(LAW, "its number: one that is REFUSED takes none", y -> {
            is("the first", law(y, "moves 2"), 0);
            is("no TEXT", law(y, "moves"), -6);
            is("count(4)", y.count(4), 1);
            is("the second", law(y, "moves 3"), 1);
            lay(y, 0);
            y.force(0);
            is("of(0, 4)", y.of(0, 4), 2);
        });
        edge(LAW, "the next LAW has nothing of one that is REFUSED", y -> {
            lay(y, 0);
            y.put(3, 0, 3);
            law(y, "moves 7;moves 8;goes if cell = 3;digs 9;bars;goes;goes x");
            is("its number", law(y, "digs 5"), 0);
            y.force(0);
            is("of(0, 4)", y.of(0, 4), 1);
            is("of(0, 5)", y.of(0, 5), 5);
            is("goes(0, 3)", y.goes(0, 3), 0);
            is("goes(0, 2)", y.goes(0, 2), 1);
            is("barred(0, 9)", y.barred(0, 9), 0);
        });
        edge(LAW, "the next LAW has nothing of one that is REFUSED: not its next CLAUSE", y -> {
            lay(y, 0);
            y.put(3, 0, 3);
            law(y, "digs 9;goes;goes x");
            y.force(law(y, "digs 5"));
            is("goes(0, 3)", y.goes(0, 3), 0);
            is("goes(0, 2)", y.goes(0, 2), 1);
            law(y, "digs 9;bars;goes x");
            y.force(law(y, "digs 6"));
            is("barred(0, 9)", y.barred(0, 9), 0);
        });
        edge(ORDERS, "the next ORDERS have nothing of those that are REFUSED", y -> {
            orders(y, "pass times 20 if 1 = 2;pass times 5;pass;pass x");
            is("orders", orders(y, "pass"), 1);
            is("YEAR", y.count(13), 1);
        });
        edge(LAW, "The TAPE, which is empty then", y -> {
            law(y, "moves 2");
            is("count(6)", y.count(6), 0);
            is("again", y.law(), -6);
            law(y, "moves");
            is("behind -6", y.count(6), 0);
        });
        edge(LAW, "one that is REFUSED leaves the LAW in FORCE", y -> {
            y.force(law(y, "moves 5"));
            lay(y, 0);
            law(y, "moves 7; digs");
            is("count(12)", y.count(12), 0);
            is("of(0, 4)", y.of(0, 4), 5);
        });
    }

    private static void ordersThatRun() {
        edge(ORDERS, "how many were run: none", y -> {
            is("not so", orders(y, "pass if 1 = 2"), 0);
            is("status()", y.status(), 0);
            is("BROKEN", orders(y, "pass if 1 / 0 = 1; pass if not 1 % 0 = 0"), 0);
            is("one that could not be", orders(y, "raise 9 if 1 = 2"), 0);
            is("YEAR", y.count(13), 0);
        });
        edge(ORDERS, "12 CLAUSES, TIMES 20: as many as can be", y -> {
            is("orders", orders(y, "pass times 20;".repeat(11) + "pass times 20"), 240);
            is("YEAR", y.count(13), 240);
        });
        edge(ORDERS, "each time its \"if\" is asked", y -> {
            is("by done", orders(y, "pass times 20 if done < 7"), 7);
            is("by done, anew", orders(y, "pass times 20 if done < 7"), 7);
            orders(y, "raise 9 if year = 14");
            is("behind one that can't be", orders(y, "pass times 20 if done < 2"), 2);
            y.terms(0, 7);
            is("by year", orders(y, "pass times 20 if year < 10"), 3);
            is("by plots", orders(y, "bury 0 at 3 * plots times 12 if plots < 10"), 10);
        });
        edge(ORDERS, "moved: in the latest year in it (-1: none)", y -> {
            lay(y, 3, 9);
            y.pass();
            is("none yet", orders(y, "raise 1 if moved > 0 - 1; pass if moved = 0 - 1"), 1);
            is("in it", orders(y, "pass; raise 1 if moved = 2; pass if moved = 2; pass if moved = 1"), 4);
            is("anew", orders(y, "pass if moved = 0 - 1"), 1);
        });
        edge(ORDERS, "moved: 0 of none is not -1", y ->
            is("orders", orders(y, "pass; pass if moved = 0; pass if moved = 0 - 1"), 2));
        edge(ORDERS, "at: the CELL of a PLOT (-1: no such)", y -> {
            is("no PLOTS", orders(y, "pass if at 0 = 0 - 1; pass if at 9 = 0 - 1"), 2);
            fill(y);
            is("all", orders(y, "raise 0 if at 0 = 0 and at 9 = 27; raise 0 if at 9 = 0 - 1 and at 8 = 27"), 2);
        });
        edge(ORDERS, "kind, bought: CELLS 0 and 31", y -> {
            y.put(31, 0, 1);
            y.put(0, 0, 1);
            y.put(30, 0, 3);
            is("orders", orders(y, "buy 31 if kind 31 = 1 and bought 31 = 0; buy 0 if bought 31 = 1; pass if bought 0 = 1"), 3);
            is("water", orders(y, "pass if kind 30 = 3 and kind 29 = 0"), 1);
        });
        edge(ORDERS, "the TAPE is empty then", y -> {
            orders(y, "pass");
            is("done", y.count(6), 0);
            orders(y, "raise 0");
            is("one can't be", y.count(6), 0);
            orders(y, "raise");
            is("no TEXT", y.count(6), 0);
            is("again", y.orders(), -6);
        });
    }

    private static void cannotBe(String text, int by) {
        YardYear y = new YardYear();
        fill(y);
        y.raise(9);
        y.put(29, 0, 2);
        List<Integer> ahead = standing(y);
        is("<" + text + ">", orders(y, text), by);
        is("<" + text + ">: status()", y.status(), by);
        isLeft("<" + text + ">", y, ahead);
        int[] counts = {by == -3 ? 1 : 0, by == -5 ? 1 : 0};
        is("by -1, -2", y.count(7) + y.count(8), 0);
        is("by -3", y.count(9), counts[0]);
        is("by -5", y.count(10), counts[1]);
    }

    private static void ordersThatCannotBe() {
        edge(ORDERS, "-3 one can't be: bury() is REFUSED", y -> {
            cannotBe("bury 6 at 31", -3);
            cannotBe("bury 0 - 1 at 31", -3);
            cannotBe("bury 0 at 32", -3);
            cannotBe("bury 0 at 0 - 1", -3);
            cannotBe("bury 0 at 0", -3);
            cannotBe("bury 0 at 29", -3);
            cannotBe("bury 1000*1000*1000 at 31", -3);
        });
        edge(ORDERS, "-3 one can't be: its FAMILY is BARRED", y -> {
            y.force(law(y, "bars if family = 4"));
            is("orders", orders(y, "bury 3 at 1; bury 4 at 2"), -3);
            is("stopped()", y.stopped(), 1);
            is("count(0)", y.count(0), 0);
        });
        edge(ORDERS, "-3 one can't be: buy() is REFUSED", y -> {
            cannotBe("buy 32", -3);
            cannotBe("buy 0 - 1", -3);
            cannotBe("buy 31", -3);
            y.put(5, 0, 1);
            is("twice", orders(y, "buy 5 times 2"), -3);
            is("at(5, 2)", y.at(5, 2), 0);
            is("once", orders(y, "buy 5"), 1);
        });
        edge(ORDERS, "-3 one can't be: raise() is REFUSED", y -> {
            cannotBe("raise 9", -3);
            cannotBe("raise 0 - 1", -3);
            cannotBe("raise 0 times 10", -3);
            fill(y);
            is("all of them", orders(y, "raise 0 times 10"), 10);
        });
        edge(ORDERS, "-3 one can't be: pass() is REFUSED", y -> {
            y.terms(0, 998);
            is("orders", orders(y, "pass times 2"), -3);
            is("YEAR", y.count(13), 998);
            is("orders", orders(y, "pass"), 1);
            is("at 999", orders(y, "pass"), -3);
            is("YEAR", y.count(13), 999);
        });
        edge(ORDERS, "-3 one can't be: a BROKEN SUM", y -> {
            cannotBe("raise 1 / 0", -3);
            cannotBe("buy 1 % 0", -3);
            cannotBe("bury 1 / 0 at 31", -3);
            cannotBe("bury 0 at 31 / 0", -3);
            cannotBe("raise 1000*1000*1000 + 1", -3);
        });
        edge(ORDERS, "-5 one has no room", y -> {
            cannotBe("bury 0 at 30; bury 0 at 31", -5);
            is("ten", orders(y, "bury 0 at 3 * plots times 10"), 10);
            is("eleven", orders(y, "bury 0 at 31"), -5);
            is("-3 ahead of -5", orders(y, "bury 0 at 0"), -3);
            is("-3 ahead of -5", orders(y, "bury 6 at 31"), -3);
            is("made room", orders(y, "raise 0; bury 0 at 31"), 2);
        });
    }

    private static void ordersAreUndone() {
        edge(ORDERS, "ends it: all is as it was ahead of it", y -> {
            y.put(7, 0, 1);
            y.bury(1, 6, 1);
            y.bury(2, 31, 0);
            y.pass();
            List<Integer> ahead = standing(y);
            is("orders", orders(y, "buy 7; pass times 20; raise 0; bury 3 at 30; raise 2; pass"), -3);
            is("stopped()", y.stopped(), 4);
            isLeft("orders", y, ahead);
            is("blocked()", y.blocked(), 1);
            is("undo()", y.undo(), 3);
            is("undo()", y.undo(), 0);
            is("undo()", y.undo(), 0);
            is("undo()", y.undo(), -3);
        });
        edge(ORDERS, "those behind one that can't be are not run", y -> {
            is("orders", orders(y, "raise 0; pass times 20"), -3);
            is("YEAR", y.count(13), 0);
        });
    }

    private static void faults() {
        edge(FAULT, "NONE ahead of any", y -> is("fault()", y.fault(), -1));
        edge(FAULT, "of the latest law(), orders() that read a TEXT; NONE without", y -> {
            law(y, "goes x");
            is("of a LAW", y.fault(), 5);
            law(y, "goes");
            is("without", y.fault(), -1);
            orders(y, "pass x");
            is("of ORDERS", y.fault(), 5);
            orders(y, "raise 0");
            is("ORDERS that can't be have none", y.fault(), -1);
            orders(y, "pass x");
            orders(y, "pass");
            is("without", y.fault(), -1);
        });
        edge(FAULT, "calls that read no TEXT leave it", y -> {
            law(y, "goes x");
            y.row();
            tape(y, 9, 9);
            y.row();
            y.pass();
            y.image(0);
            y.back(0);
            is("fault()", y.fault(), 5);
        });
    }

    private static void stops() {
        edge(15, "NONE ahead of any", y -> is("stopped()", y.stopped(), -1));
        edge(15, "which CLAUSE (0 on): the first, the twelfth", y -> {
            orders(y, "raise 0");
            is("the first", y.stopped(), 0);
            is("orders", orders(y, "pass;".repeat(11) + "raise 0"), -3);
            is("the twelfth", y.stopped(), 11);
            orders(y, "pass times 3; pass if 1 = 2; raise 0; pass");
            is("the third", y.stopped(), 2);
        });
        edge(15, "NONE (that was done)", y -> {
            orders(y, "raise 0");
            orders(y, "pass");
            is("stopped()", y.stopped(), -1);
            orders(y, "raise 0");
            orders(y, "raise 0 if 1 = 2");
            is("none was run", y.stopped(), -1);
        });
        edge(15, "NONE (REFUSED by -6)", y -> {
            orders(y, "pass; raise 0");
            is("stopped()", y.stopped(), 1);
            y.orders();
            is("an empty TAPE", y.stopped(), -1);
            orders(y, "pass; raise 0");
            orders(y, "pass; raise");
            is("no TEXT", y.stopped(), -1);
        });
        edge(15, "by -5, too", y -> {
            fill(y);
            orders(y, "pass; bury 0 at 31");
            is("stopped()", y.stopped(), 1);
        });
        edge(15, "other calls leave it", y -> {
            orders(y, "pass; raise 0");
            y.raise(0);
            law(y, "goes if");
            y.undo();
            is("stopped()", y.stopped(), 1);
        });
    }
}
