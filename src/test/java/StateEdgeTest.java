import java.util.Arrays;
import java.util.List;

/**
 * Promises 1 to 11, 16 to 22 and 38 to 41: for each sentence that names a boundary case (too small, too large, empty,
 * full, round the ring, refused) a test of its own.
 */
public final class StateEdgeTest extends YardTest {
    public static void main(String[] args) {
        newObject();
        putNumbers();
        putWhatStands();
        atAndOf();
        goesAndBarred();
        terms();
        feedAndEnd();
        rows();
        moles();
        force();
        buryNumbers();
        buryWhatStands();
        buy();
        raise();
        yearsThatPass();
        blockedPlots();
        undoSixteen();
        undoNone();
        images();
        imagesKeep();
        counts();
        statuses();
        report("StateEdgeTest");
    }

    private static void newObject() {
        edge(1, "NONE = -1", y -> is("NONE", YardYear.NONE, -1));
        edge(1, "KIND 0 grass, PRICE 0, not BOUGHT at first; no PLOT", y -> {
            for (int cell = 0; cell < 32; cell++) {
                is("at(" + cell + ", 0)", y.at(cell, 0), 0);
                is("at(" + cell + ", 1)", y.at(cell, 1), 0);
                is("at(" + cell + ", 2)", y.at(cell, 2), 0);
                is("at(" + cell + ", 3)", y.at(cell, 3), -1);
            }
        });
        edge(1, "TERMS at first: YEAR 0, LIGHT 20, FROST 2, MOOD 0", y -> {
            is("YEAR", y.count(13), 0);
            is("LIGHT", y.count(14), 20);
            is("FROST", y.count(15), 2);
            is("MOOD", y.count(16), 0);
        });
        edge(1, "one is in FORCE (NONE at first)", y -> is("count(12)", y.count(12), -1));
        edge(1, "nothing is there, nothing was REFUSED", y -> {
            for (int what = 0; what < 12; what++) {
                is("count(" + what + ")", y.count(what), 0);
            }
        });
        edge(1, "EAST of 31 is 0", y -> {
            lay(y, 31);
            is("pass()", y.pass(), 1);
            is("of(0, 0)", y.of(0, 0), 0);
            is("at(0, 3)", y.at(0, 3), 0);
            is("at(31, 3)", y.at(31, 3), -1);
        });
    }

    private static void putNumbers() {
        edge(2, "CELLS 0 .. 31; -1", y -> {
            for (int cell : beyond(0, 31)) {
                is("put(" + cell + ", 0, 0)", y.put(cell, 0, 0), -1);
                is("status()", y.status(), -1);
            }
            is("put(0, 0, 1)", y.put(0, 0, 1), 0);
            is("put(31, 0, 1)", y.put(31, 0, 1), 0);
            is("walls", y.count(1), 2);
        });
        edge(2, "KIND (what 0), PRICE (1), BOUGHT (2); -1", y -> {
            for (int what : beyond(0, 2)) {
                is("put(0, " + what + ", 0)", y.put(0, what, 0), -1);
                is("status()", y.status(), -1);
            }
            is("REFUSED by -1", y.count(7), 4);
        });
        int[] most = {3, 99, 1};
        for (int what = 0; what < 3; what++) {
            int one = what;
            edge(2, "KIND 0 .. 3; PRICE 0 .. 99; BOUGHT 1, 0; -1, what " + what, y -> {
                y.put(7, 0, 1);
                y.put(7, one, 1);
                List<Integer> ahead = standing(y);
                for (int value : beyond(0, most[one])) {
                    is("put(7, " + one + ", " + value + ")", y.put(7, one, value), -1);
                }
                isLeft("put", y, ahead);
                is("the most", y.put(7, one, most[one]), 1);
                is("the least", y.put(7, one, 0), most[one]);
                is("again", y.put(7, one, 0), 0);
            });
        }
        edge(2, "-1 ahead of -3", y -> {
            lay(y, 5);
            is("put(5, 0, 4)", y.put(5, 0, 4), -1);
            is("put(5, 2, 2)", y.put(5, 2, 2), -1);
            is("put(32, 2, 1)", y.put(32, 2, 1), -1);
        });
    }

    private static void putWhatStands() {
        for (int kind = 0; kind < 4; kind++) {
            int one = kind;
            boolean can = kind == 0 || kind == 2;
            edge(2, "-3 a wall, water where a PLOT lies, KIND " + kind, y -> {
                lay(y, 5);
                y.put(5, 0, 2);
                List<Integer> ahead = standing(y);
                is("put(5, 0, " + one + ")", y.put(5, 0, one), can ? 2 : -3);
                is("status()", y.status(), can ? 0 : -3);
                if (!can) {
                    isLeft("put", y, ahead);
                }
                is("beside it", y.put(6, 0, one), 0);
                is("behind it", y.put(4, 0, one), 0);
                is("at(6, 0)", y.at(6, 0), one);
            });
        }
        edge(2, "-3 a wall where a PLOT lies: where one is already, too", y -> {
            y.put(1, 0, 1);
            y.buy(1);
            lay(y, 0);
            y.pass();
            is("at(1, 3)", y.at(1, 3), 0);
            is("put(1, 0, 1)", y.put(1, 0, 1), -3);
            is("put(1, 0, 3)", y.put(1, 0, 3), -3);
            is("put(1, 1, 9)", y.put(1, 1, 9), 0);
            is("put(1, 2, 0)", y.put(1, 2, 0), 1);
            is("put(1, 2, 1)", y.put(1, 2, 1), 0);
            is("put(1, 0, 0)", y.put(1, 0, 0), 1);
        });
        for (int kind : new int[] {0, 2, 3}) {
            edge(2, "-3 BOUGHT where no wall is, KIND " + kind, y -> {
                y.put(9, 0, kind);
                is("put(9, 2, 1)", y.put(9, 2, 1), -3);
                is("status()", y.status(), -3);
                is("at(9, 2)", y.at(9, 2), 0);
                is("put(9, 2, 0)", y.put(9, 2, 0), 0);
                is("status()", y.status(), 0);
            });
            edge(2, "a CELL that is no wall is not BOUGHT, KIND " + kind, y -> {
                y.put(9, 0, 1);
                y.put(9, 2, 1);
                is("put(9, 0, " + kind + ")", y.put(9, 0, kind), 1);
                is("at(9, 2)", y.at(9, 2), 0);
                is("count(2)", y.count(2), 0);
                y.put(9, 0, 1);
                is("as a wall anew", y.at(9, 2), 0);
            });
        }
    }

    private static void atAndOf() {
        edge(3, "CELLS 0 .. 31; NONE", y -> {
            for (int cell : beyond(0, 31)) {
                for (int what = 0; what < 4; what++) {
                    is("at(" + cell + ", " + what + ")", y.at(cell, what), -1);
                }
            }
            is("at(0, 0)", y.at(0, 0), 0);
            is("at(31, 2)", y.at(31, 2), 0);
        });
        edge(3, "KIND (what 0) .. the PLOT there (3); NONE", y -> {
            lay(y, 5);
            for (int what : beyond(0, 3)) {
                is("at(5, " + what + ")", y.at(5, what), -1);
            }
        });
        edge(3, "the PLOT there (3; NONE)", y -> {
            is("without PLOTS", y.at(0, 3), -1);
            fill(y);
            is("the first", y.at(0, 3), 0);
            is("the tenth", y.at(27, 3), 9);
            is("beside it", y.at(28, 3), -1);
            y.raise(9);
            is("it is gone", y.at(27, 3), -1);
        });
        edge(4, "a PLOT; NONE", y -> {
            is("without PLOTS", y.of(0, 0), -1);
            fill(y);
            for (int plot : beyond(0, 9)) {
                for (int what = 0; what < 6; what++) {
                    is("of(" + plot + ", " + what + ")", y.of(plot, what), -1);
                }
            }
            is("of(9, 0)", y.of(9, 0), 27);
            y.raise(0);
            is("one less", y.of(9, 0), -1);
            is("of(8, 0)", y.of(8, 0), 27);
        });
        edge(4, "the CELL (what 0) .. how long it DIGS (5); NONE", y -> {
            lay(y, 5);
            for (int what : beyond(0, 5)) {
                is("of(0, " + what + ")", y.of(0, what), -1);
            }
        });
        edge(4, "YEARS 0 .. 999 (0 at first), 999 at most", y -> {
            lay(y, 5);
            is("at first", y.of(0, 3), 0);
            years(y, 998);
            is("behind 998", y.of(0, 3), 998);
            is("pass()", y.pass(), 1);
            is("behind 999", y.of(0, 3), 999);
            y.terms(0, 0);
            y.pass();
            is("behind 1,000", y.of(0, 3), 999);
            is("YEAR", y.count(13), 1);
        });
        edge(4, "YEARS (0 at first): under a number that another one had", y -> {
            lay(y, 5);
            y.pass();
            y.raise(0);
            lay(y, 20);
            is("of(0, 3)", y.of(0, 3), 0);
        });
        edge(4, "4 without, 2 if SMALL; 1 without", y -> {
            y.bury(0, 0, 0);
            y.bury(0, 5, 1);
            is("of(0, 5)", y.of(0, 5), 4);
            is("of(1, 5)", y.of(1, 5), 2);
            is("of(1, 4)", y.of(1, 4), 1);
        });
    }

    private static void goesAndBarred() {
        edge(5, "a PLOT, a CELL; NONE", y -> {
            is("without PLOTS", y.goes(0, 0), -1);
            lay(y, 5);
            for (int plot : beyond(0, 0)) {
                is("goes(" + plot + ", 0)", y.goes(plot, 0), -1);
            }
            for (int cell : beyond(0, 31)) {
                is("goes(0, " + cell + ")", y.goes(0, cell), -1);
            }
            is("goes(0, 0)", y.goes(0, 0), 1);
            is("goes(0, 31)", y.goes(0, 31), 1);
        });
        edge(5, "without a LAW: grass, path, or a wall that is BOUGHT", y -> {
            lay(y, 5, 6);
            for (int kind = 0; kind < 4; kind++) {
                y.put(kind, 0, kind);
            }
            is("grass", y.goes(0, 0), 1);
            is("wall", y.goes(0, 1), 0);
            is("path", y.goes(0, 2), 1);
            is("water", y.goes(0, 3), 0);
            y.buy(1);
            is("a wall that is BOUGHT", y.goes(0, 1), 1);
            is("whoever lies there", y.goes(0, 6), 1);
        });
        edge(6, "a FAMILY 0 .. 5, a CELL 0 .. 31; NONE", y -> {
            for (int family : beyond(0, 5)) {
                is("barred(" + family + ", 0)", y.barred(family, 0), -1);
            }
            for (int cell : beyond(0, 31)) {
                is("barred(0, " + cell + ")", y.barred(0, cell), -1);
            }
            is("barred(0, 0)", y.barred(0, 0), 0);
            is("barred(5, 31)", y.barred(5, 31), 0);
            y.force(law(y, "bars"));
            is("by a LAW", y.barred(0, 0), 1);
            is("by a LAW", y.barred(5, 31), 1);
        });
    }

    private static void terms() {
        int[][] ends = {{0, 999, 0}, {1, 99, 20}, {0, 10, 2}, {0, 9, 0}};
        for (int what = 0; what < 4; what++) {
            int one = what;
            int[] e = ends[what];
            edge(7, "YEAR 0 .. 999, LIGHT 1 .. 99, FROST 0 .. 10, MOOD 0 .. 9; -1, TERM " + what, y -> {
                for (int value : beyond(e[0], e[1])) {
                    is("terms(" + one + ", " + value + ")", y.terms(one, value), -1);
                    is("status()", y.status(), -1);
                }
                is("as at first", y.count(13 + one), e[2]);
                is("the least", y.terms(one, e[0]), e[2]);
                is("the most", y.terms(one, e[1]), e[0]);
                is("is the most", y.count(13 + one), e[1]);
                is("again", y.terms(one, e[1]), e[1]);
            });
        }
        edge(7, "0 YEAR .. 3 MOOD; -1", y -> {
            List<Integer> ahead = standing(y);
            for (int what : beyond(0, 3)) {
                is("terms(" + what + ", 1)", y.terms(what, 1), -1);
            }
            isLeft("terms", y, ahead);
        });
    }

    private static void feedAndEnd() {
        edge(8, "NONE, if there would be more than 400", y -> {
            for (int i = 1; i <= 20; i++) {
                is("feed " + i, y.feed(0, 0, 0, 0, 0), 20 * i);
            }
            is("at 400", y.feed(0, 0, 0, 0, 0), -1);
            is("count(6)", y.count(6), 400);
            is("status()", y.status(), 0);
            y.end(381);
            is("at 381", y.feed(1, 1, 1, 1, 1), -1);
            is("count(6)", y.count(6), 381);
            y.end(380);
            is("at 380", y.feed(1, 1, 1, 1, 1), 400);
        });
        edge(8, "four of each number, the highest first", y -> {
            is("feed", y.feed(0x0263017f, 0x00620000, 0x000f0010, 0x00110012, 0xffffffff), 20);
            is("row()", y.row(), 7);
            is("at(0, 0)", y.at(0, 0), 2);
            is("at(0, 1)", y.at(0, 1), 99);
            is("127 is no PRICE", y.at(1, 0), 0);
            is("at(2, 1)", y.at(2, 1), 98);
            is("at(7, 1)", y.at(7, 1), 18);
            is("255 is no KIND", y.at(8, 0), 0);
            is("moles()", y.moles(), 3);
        });
        edge(8, "twenty bytes come behind the TAPE, whatever they are", y -> {
            y.feed(0x02070000, 0, 0, 0, 0);
            y.end(2);
            is("feed", y.feed(Integer.MIN_VALUE, Integer.MAX_VALUE, -1, 0, 0x03080309), 22);
            is("row()", y.row(), 6);
            is("the first", y.at(0, 1), 7);
            is("the last", y.at(10, 1), 9);
        });
        edge(9, "NONE, if it has not so many", y -> {
            is("of none", y.end(1), -1);
            y.feed(0, 0, 0, 0, 0);
            is("one more", y.end(21), -1);
            is("far more", y.end(Integer.MAX_VALUE), -1);
            is("count(6)", y.count(6), 20);
            is("status()", y.status(), 0);
            is("all", y.end(20), 20);
            is("but one", y.end(19), 19);
            is("not again", y.end(20), -1);
        });
        edge(9, "NONE, if n is below 0", y -> {
            y.feed(0, 0, 0, 0, 0);
            is("end(-1)", y.end(-1), -1);
            is("end(least)", y.end(Integer.MIN_VALUE), -1);
            is("count(6)", y.count(6), 20);
            is("none of them", y.end(0), 0);
            is("count(6)", y.count(6), 0);
            is("of none", y.end(0), 0);
        });
    }

    private static void rows() {
        edge(10, "-6 the TAPE is empty", y -> {
            lay(y, 3);
            List<Integer> ahead = standing(y);
            is("row()", y.row(), -6);
            is("status()", y.status(), -6);
            isLeft("row()", y, ahead);
        });
        edge(10, "the TAPE is empty then", y -> {
            tape(y, 2, 2, 9);
            is("row()", y.row(), 1);
            is("count(6)", y.count(6), 0);
            is("again", y.row(), -6);
        });
        edge(10, "one behind CELL 31 is a MOLE", y -> {
            int[] bytes = new int[400];
            Arrays.fill(bytes, 2);
            tape(y, Arrays.copyOf(bytes, 64));
            is("just the ring", y.row(), 32);
            is("moles()", y.moles(), 0);
            is("at(31, 0)", y.at(31, 0), 2);
            Arrays.fill(bytes, 64, 400, 3);
            tape(y, Arrays.copyOf(bytes, 66));
            is("one more", y.row(), 32);
            is("moles()", y.moles(), 1);
            is("at(0, 0)", y.at(0, 0), 2);
            tape(y, bytes);
            is("all the TAPE", y.row(), 32);
            is("moles()", y.moles(), 168);
            is("at(31, 0)", y.at(31, 0), 2);
        });
        edge(10, "one within which the TAPE ends is a MOLE", y -> {
            tape(y, 2);
            is("one byte", y.row(), 0);
            is("moles()", y.moles(), 1);
            is("at(0, 0)", y.at(0, 0), 0);
            tape(y, 2, 1, 2);
            is("three bytes", y.row(), 1);
            is("moles()", y.moles(), 1);
            is("at(1, 0)", y.at(1, 0), 0);
            int[] bytes = new int[65];
            Arrays.fill(bytes, 2);
            tape(y, Arrays.copyOf(bytes, 63));
            is("within CELL 31", y.row(), 31);
            is("moles()", y.moles(), 1);
            is("at(31, 0)", y.at(31, 0), 0);
            tape(y, bytes);
            is("behind CELL 31", y.row(), 32);
            is("moles()", y.moles(), 1);
        });
        edge(10, "KIND, PRICE: one that can't be leaves its CELL as it was", y -> {
            tape(y, 3, 99, 4, 7, 1, 100, 255, 0, 0, 255, 2, 0);
            is("row()", y.row(), 2);
            is("moles()", y.moles(), 4);
            is("the most", y.at(0, 0), 3);
            is("the most", y.at(0, 1), 99);
            is("KIND 4", y.at(1, 0), 0);
            is("its PRICE", y.at(1, 1), 0);
            is("PRICE 100", y.at(2, 1), 0);
            is("its KIND", y.at(2, 0), 0);
            is("PRICE 255", y.at(4, 1), 0);
            is("those behind are told", y.at(5, 0), 2);
            tape(y, 0, 0);
            is("the least", y.row(), 1);
            is("the least", y.at(0, 1), 0);
        });
        edge(10, "A wall, water where a PLOT lies can't be", y -> {
            lay(y, 0, 1, 2, 3);
            tape(y, 0, 5, 1, 5, 2, 5, 3, 5, 1, 5);
            is("row()", y.row(), 3);
            is("moles()", y.moles(), 2);
            int[] kinds = {0, 0, 2, 0, 1};
            int[] prices = {5, 0, 5, 0, 5};
            for (int cell = 0; cell < 5; cell++) {
                is("at(" + cell + ", 0)", y.at(cell, 0), kinds[cell]);
                is("at(" + cell + ", 1)", y.at(cell, 1), prices[cell]);
            }
        });
        edge(10, "a CELL that is no wall is not BOUGHT any more", y -> {
            for (int cell = 0; cell < 6; cell++) {
                y.put(cell, 0, 1);
                y.buy(cell);
            }
            tape(y, 0, 0, 1, 9, 2, 0, 3, 0, 4, 0);
            is("row()", y.row(), 4);
            int[] bought = {0, 1, 0, 0, 1, 1};
            for (int cell = 0; cell < 6; cell++) {
                is("at(" + cell + ", 2)", y.at(cell, 2), bought[cell]);
            }
            is("count(2)", y.count(2), 3);
        });
    }

    private static void moles() {
        edge(11, "0 ahead of any", y -> is("moles()", y.moles(), 0));
        edge(11, "the latest row() that was not REFUSED", y -> {
            tape(y, 9, 9, 9);
            y.row();
            is("moles()", y.moles(), 2);
            y.row();
            is("behind -6", y.moles(), 2);
            tape(y, 0, 0);
            y.row();
            is("none in the latest", y.moles(), 0);
        });
        edge(11, "a ROW of MOLES alone is not REFUSED", y -> {
            tape(y, 9, 9, 9, 9);
            is("row()", y.row(), 0);
            is("status()", y.status(), 0);
            is("moles()", y.moles(), 2);
        });
    }

    private static void force() {
        edge(16, "LAWS, 6 at most; -2", y -> {
            for (int number : new int[] {0, 5, 6, -2, Integer.MIN_VALUE, Integer.MAX_VALUE}) {
                is("without LAWS", y.force(number), -2);
                is("status()", y.status(), -2);
            }
            for (int i = 0; i < 6; i++) {
                law(y, "moves " + i);
                is("force(" + (i + 1) + ")", y.force(i + 1), -2);
                is("force(" + i + ")", y.force(i), i - 1);
            }
            for (int number : new int[] {6, -2, Integer.MIN_VALUE, Integer.MAX_VALUE}) {
                is("force(" + number + ")", y.force(number), -2);
            }
            is("as ahead", y.count(12), 5);
        });
        edge(16, "NONE: none; which was", y -> {
            is("none ahead", y.force(-1), -1);
            is("status()", y.status(), 0);
            law(y, "moves 2");
            is("none ahead", y.force(0), -1);
            is("the same", y.force(0), 0);
            is("none", y.force(-1), 0);
            is("none", y.count(12), -1);
        });
    }

    private static void buryNumbers() {
        edge(17, "a FAMILY 0 .. 5; -1", y -> {
            for (int family : beyond(0, 5)) {
                is("bury(" + family + ", 0, 0)", y.bury(family, 0, 0), -1);
            }
            is("bury(0, 0, 0)", y.bury(0, 0, 0), 0);
            is("bury(5, 1, 0)", y.bury(5, 1, 0), 1);
            is("of(1, 1)", y.of(1, 1), 5);
        });
        edge(17, "a CELL 0 .. 31; -1", y -> {
            for (int cell : beyond(0, 31)) {
                is("bury(0, " + cell + ", 0)", y.bury(0, cell, 0), -1);
            }
            is("bury(0, 0, 0)", y.bury(0, 0, 0), 0);
            is("bury(0, 31, 0)", y.bury(0, 31, 0), 1);
            is("of(1, 0)", y.of(1, 0), 31);
        });
        edge(17, "SMALL (1) or not (0); -1", y -> {
            for (int small : beyond(0, 1)) {
                is("bury(0, 0, " + small + ")", y.bury(0, 0, small), -1);
            }
            is("count(0)", y.count(0), 0);
            is("count(5)", y.count(5), 0);
            is("bury(0, 0, 0)", y.bury(0, 0, 0), 0);
            is("bury(0, 1, 1)", y.bury(0, 1, 1), 1);
            is("of(0, 2)", y.of(0, 2), 0);
            is("of(1, 2)", y.of(1, 2), 1);
        });
        edge(17, "PLOTS 0 .. 9 (10 at most); -5", y -> {
            for (int i = 0; i < 10; i++) {
                is("bury " + i, y.bury(0, 3 * i, 0), i);
            }
            List<Integer> ahead = standing(y);
            is("an eleventh", y.bury(0, 31, 0), -5);
            is("status()", y.status(), -5);
            isLeft("bury", y, ahead);
            y.raise(4);
            is("room for one", y.bury(0, 31, 0), 9);
            is("and no more", y.bury(0, 30, 0), -5);
        });
        edge(17, "-1 ahead of -3 ahead of -5", y -> {
            fill(y);
            y.put(31, 0, 3);
            is("where one lies", y.bury(0, 0, 0), -3);
            is("in water", y.bury(0, 31, 0), -3);
            is("of no FAMILY", y.bury(6, 0, 0), -1);
            is("in no CELL", y.bury(0, 32, 0), -1);
            is("neither SMALL nor not", y.bury(0, 31, 2), -1);
            y.force(law(y, "bars if family = 1"));
            is("BARRED", y.bury(1, 30, 0), -3);
            is("no room", y.bury(2, 30, 0), -5);
        });
    }

    private static void buryWhatStands() {
        edge(17, "in a grass CELL; -3", y -> {
            for (int kind = 1; kind < 4; kind++) {
                y.put(kind, 0, kind);
                is("KIND " + kind, y.bury(0, kind, 0), -3);
                is("status()", y.status(), -3);
            }
            y.buy(1);
            is("a wall that is BOUGHT", y.bury(0, 1, 0), -3);
            is("grass", y.bury(0, 0, 0), 0);
        });
        edge(17, "without a PLOT; -3", y -> {
            lay(y, 0);
            is("where one lies", y.bury(1, 0, 1), -3);
            is("EAST of it", y.bury(1, 1, 1), 1);
            is("behind it", y.bury(1, 31, 1), 2);
            y.raise(0);
            is("where one lay", y.bury(1, 0, 1), 2);
        });
        edge(17, "its FAMILY not BARRED; -3", y -> {
            y.force(law(y, "bars if family = 5 and cell = 31"));
            is("BARRED", y.bury(5, 31, 0), -3);
            is("not there", y.bury(5, 30, 0), 0);
            is("not that FAMILY", y.bury(4, 31, 0), 1);
        });
    }

    private static void buy() {
        edge(18, "a CELL 0 .. 31; -1", y -> {
            for (int cell : beyond(0, 31)) {
                is("buy(" + cell + ")", y.buy(cell), -1);
                is("status()", y.status(), -1);
            }
            y.put(0, 0, 1);
            y.put(31, 0, 1);
            y.put(31, 1, 99);
            is("buy(0)", y.buy(0), 0);
            is("buy(31)", y.buy(31), 99);
            is("count(2)", y.count(2), 2);
        });
        edge(18, "a wall that is not BOUGHT; -3", y -> {
            for (int kind : new int[] {0, 2, 3}) {
                y.put(kind, 0, kind);
                is("KIND " + kind, y.buy(kind), -3);
                is("status()", y.status(), -3);
            }
            y.put(1, 0, 1);
            is("a wall", y.buy(1), 0);
            List<Integer> ahead = standing(y);
            is("twice", y.buy(1), -3);
            isLeft("buy", y, ahead);
        });
    }

    private static void raise() {
        edge(19, "-2 there is no such PLOT", y -> {
            is("of none", y.raise(0), -2);
            is("status()", y.status(), -2);
            lay(y, 4, 8);
            List<Integer> ahead = standing(y);
            for (int plot : beyond(0, 1)) {
                is("raise(" + plot + ")", y.raise(plot), -2);
            }
            isLeft("raise", y, ahead);
            is("the last", y.raise(1), 8);
            is("no such any more", y.raise(1), -2);
            is("the first", y.raise(0), 4);
            is("of none", y.raise(0), -2);
        });
        edge(19, "those behind it have a number less: of ten", y -> {
            y.force(law(y, "moves 0"));
            for (int i = 0; i < 10; i++) {
                y.pass();
                y.bury(i % 6, 3 * i, i % 2);
            }
            is("the first", y.raise(0), 0);
            for (int plot = 0; plot < 9; plot++) {
                is("CELL", y.of(plot, 0), 3 * (plot + 1));
                is("FAMILY", y.of(plot, 1), (plot + 1) % 6);
                is("SMALL", y.of(plot, 2), (plot + 1) % 2);
                is("YEARS", y.of(plot, 3), 8 - plot);
            }
            is("the last", y.raise(8), 27);
            is("the one ahead of it", y.of(7, 0), 24);
            is("count(0)", y.count(0), 8);
        });
    }

    private static void yearsThatPass() {
        edge(20, "at 999 it can't be; -3", y -> {
            lay(y, 5);
            y.terms(0, 998);
            is("at 998", y.pass(), 1);
            is("count(13)", y.count(13), 999);
            List<Integer> ahead = standing(y);
            is("at 999", y.pass(), -3);
            is("status()", y.status(), -3);
            isLeft("pass()", y, ahead);
        });
        edge(20, "how many CELLS all PLOTS together moved: none of none", y -> {
            is("pass()", y.pass(), 0);
            is("status()", y.status(), 0);
            is("count(13)", y.count(13), 1);
        });
        edge(20, "EAST of 31 is 0, more than one CELL a year", y -> {
            y.force(law(y, "moves 9"));
            lay(y, 27, 31);
            is("pass()", y.pass(), 3 + 9);
            is("the first", y.of(0, 0), 30);
            is("the second", y.of(1, 0), 8);
            is("pass()", y.pass(), 18);
            is("the first", y.of(0, 0), 7);
        });
        edge(20, "as many as it MOVES 0 .. 9 (asked once)", y -> {
            y.force(law(y, "moves 9 - 3 * cell"));
            lay(y, 0, 20);
            is("pass()", y.pass(), 9);
            is("the most", y.of(0, 0), 9);
            is("the least", y.of(1, 0), 20);
            is("none is BLOCKED", y.blocked(), 0);
        });
        edge(20, "PLOTS by numbers: one that goes on makes room for those behind it alone", y -> {
            lay(y, 5, 6);
            is("pass()", y.pass(), 1);
            is("the lower, behind", y.of(0, 0), 5);
            is("the higher, ahead", y.of(1, 0), 7);
        });
        edge(20, "PLOTS by numbers: the lower one ahead has gone", y -> {
            lay(y, 6, 5);
            is("pass()", y.pass(), 2);
            is("the higher, behind", y.of(1, 0), 6);
        });
        edge(20, "as long as it GOES there; else it stays where it has come to", y -> {
            y.force(law(y, "moves 5"));
            lay(y, 5, 20);
            y.put(8, 0, 1);
            y.put(20, 0, 2);
            y.put(21, 0, 3);
            is("pass()", y.pass(), 2);
            is("ahead of the wall", y.of(0, 0), 7);
            is("ahead of water", y.of(1, 0), 20);
            y.buy(8);
            is("pass()", y.pass(), 5);
            is("through the wall", y.of(0, 0), 12);
        });
    }

    private static void blockedPlots() {
        edge(21, "0 ahead of any", y -> is("blocked()", y.blocked(), 0));
        edge(21, "the latest pass(): none in it", y -> {
            lay(y, 5, 6);
            y.pass();
            is("by a PLOT", y.blocked(), 1);
            y.pass();
            is("none", y.blocked(), 0);
        });
        edge(21, "all ten, each once", y -> {
            for (int cell = 0; cell < 10; cell++) {
                y.bury(0, 22 + cell, 0);
            }
            y.put(0, 0, 3);
            y.force(law(y, "moves 9"));
            is("pass()", y.pass(), 0);
            is("blocked()", y.blocked(), 10);
        });
        edge(21, "a pass() that is REFUSED is none", y -> {
            lay(y, 5, 6);
            y.terms(0, 998);
            y.pass();
            y.pass();
            is("status()", y.status(), -3);
            is("blocked()", y.blocked(), 1);
        });
        edge(21, "in ORDERS, too", y -> {
            lay(y, 5, 6);
            orders(y, "pass");
            is("blocked()", y.blocked(), 1);
            orders(y, "pass times 2");
            is("of the latest in them", y.blocked(), 0);
        });
        edge(21, "all is as it was ahead of ORDERS that can't be", y -> {
            lay(y, 5, 6);
            y.pass();
            is("orders", orders(y, "pass times 3; raise 9"), -3);
            is("blocked()", y.blocked(), 1);
        });
    }

    private static void undoSixteen() {
        edge(22, "16 are kept", y -> {
            for (int i = 1; i <= 16; i++) {
                y.pass();
                is("count(5)", y.count(5), i);
            }
            y.pass();
            is("not a seventeenth", y.count(5), 16);
            for (int i = 15; i >= 0; i--) {
                is("undo()", y.undo(), 3);
                is("YEAR", y.count(13), i + 1);
                is("count(5)", y.count(5), i);
            }
            is("not a seventeenth", y.undo(), -3);
            is("status()", y.status(), -3);
            is("YEAR", y.count(13), 1);
        });
        edge(22, "16 are kept: by ORDERS, too", y -> {
            orders(y, "pass times 20; bury 1 at 7");
            is("count(5)", y.count(5), 16);
            is("undo()", y.undo(), 0);
            for (int i = 0; i < 15; i++) {
                is("undo()", y.undo(), 3);
            }
            is("YEAR", y.count(13), 5);
            is("not a seventeenth", y.undo(), -3);
        });
        edge(22, "all is as it was ahead of ORDERS that can't be: what can be undone, too", y -> {
            for (int i = 0; i < 8; i++) {
                y.bury(0, i, 0);
                y.pass();
                y.raise(0);
            }
            is("count(5)", y.count(5), 16);
            is("orders", orders(y, "pass times 20; buy 0"), -3);
            is("count(5)", y.count(5), 16);
            int[] acts = {2, 3, 0};
            for (int i = 0; i < 16; i++) {
                is("undo()", y.undo(), acts[i % 3]);
            }
            is("YEAR", y.count(13), 3);
            is("undo()", y.undo(), -3);
        });
        edge(22, "is undone: 0 .. 3", y -> {
            y.put(9, 0, 1);
            y.bury(2, 31, 1);
            y.buy(9);
            y.pass();
            y.raise(0);
            is("a raise", y.undo(), 2);
            is("its CELL", y.of(0, 0), 0);
            is("its FAMILY", y.of(0, 1), 2);
            is("SMALL", y.of(0, 2), 1);
            is("its YEARS", y.of(0, 3), 1);
            is("a pass", y.undo(), 3);
            is("round the ring", y.of(0, 0), 31);
            is("YEAR", y.count(13), 0);
            is("a buy", y.undo(), 1);
            is("at(9, 2)", y.at(9, 2), 0);
            is("a bury", y.undo(), 0);
            is("count(0)", y.count(0), 0);
            is("none", y.undo(), -3);
        });
        edge(22, "YEARS 999 at most: undone as they were", y -> {
            lay(y, 0);
            years(y, 999);
            y.terms(0, 998);
            lay(y, 20);
            y.pass();
            is("YEARS", y.of(0, 3), 999);
            y.undo();
            is("YEARS", y.of(0, 3), 999);
            is("YEARS of the other", y.of(1, 3), 0);
            is("YEAR", y.count(13), 998);
        });
    }

    private static void undoNone() {
        edge(22, "-3 there is none", y -> {
            is("undo()", y.undo(), -3);
            is("status()", y.status(), -3);
            lay(y, 3);
            y.undo();
            is("again", y.undo(), -3);
        });
        edge(22, "nothing that was ahead of a put() that was not REFUSED can be undone", y -> {
            lay(y, 3);
            y.put(32, 0, 0);
            y.put(3, 0, 1);
            y.put(4, 2, 1);
            is("REFUSED", y.count(5), 1);
            y.put(4, 0, 0);
            is("though nothing is other", y.undo(), -3);
            y.pass();
            y.put(4, 2, 0);
            is("by what 2, too", y.undo(), -3);
            y.pass();
            y.put(4, 1, 0);
            is("by what 1, too", y.undo(), -3);
        });
        edge(22, "nothing that was ahead of a terms() that was not REFUSED can be undone", y -> {
            lay(y, 3);
            y.terms(0, 1000);
            y.terms(4, 0);
            is("REFUSED", y.count(5), 1);
            y.terms(0, 0);
            is("though nothing is other", y.undo(), -3);
        });
        edge(22, "nothing that was ahead of a row() that was not REFUSED can be undone", y -> {
            lay(y, 3);
            y.row();
            is("REFUSED", y.count(5), 1);
            tape(y, 9);
            y.row();
            is("of MOLES alone", y.undo(), -3);
        });
        edge(22, "other calls leave what can be undone", y -> {
            y.pass();
            y.bury(6, 0, 0);
            y.buy(0);
            y.raise(0);
            law(y, "moves 2");
            law(y, "moves");
            y.force(0);
            y.find(0, 0, 0);
            y.forget();
            y.image(0);
            y.back(1);
            y.centuries(1, 1);
            orders(y, "raise 0");
            orders(y, "raise");
            orders(y, "pass if 1 = 2");
            is("count(5)", y.count(5), 1);
            is("undo()", y.undo(), 3);
            is("the LAW stays", y.count(12), 0);
        });
    }

    private static void images() {
        edge(38, "IMAGES 0, 1; -1", y -> {
            for (int k : beyond(0, 1)) {
                is("image(" + k + ")", y.image(k), -1);
                is("status()", y.status(), -1);
            }
            is("image(0)", y.image(0), 0);
            is("image(1)", y.image(1), 0);
        });
        edge(39, "IMAGES 0, 1; -1", y -> {
            y.image(0);
            y.image(1);
            for (int k : beyond(0, 1)) {
                is("back(" + k + ")", y.back(k), -1);
                is("status()", y.status(), -1);
            }
            is("back(0)", y.back(0), 0);
            is("back(1)", y.back(1), 0);
        });
        edge(39, "-2 it was not kept", y -> {
            lay(y, 3);
            List<Integer> ahead = standing(y);
            is("back(0)", y.back(0), -2);
            is("back(1)", y.back(1), -2);
            is("status()", y.status(), -2);
            isLeft("back", y, ahead);
            y.image(1);
            is("back(0)", y.back(0), -2);
            is("back(1)", y.back(1), 0);
        });
        edge(39, "what can be undone (nothing, behind back())", y -> {
            y.image(0);
            y.pass();
            y.back(2);
            y.back(1);
            is("REFUSED", y.count(5), 1);
            y.back(0);
            is("count(5)", y.count(5), 0);
            is("undo()", y.undo(), -3);
        });
        edge(39, "IMAGES stay", y -> {
            y.image(0);
            lay(y, 3);
            y.image(1);
            y.back(0);
            is("count(0)", y.count(0), 0);
            y.back(1);
            is("count(0)", y.count(0), 1);
            y.back(0);
            is("count(0)", y.count(0), 0);
        });
        edge(38, "kept again, it is as it is now", y -> {
            y.image(0);
            lay(y, 3);
            y.image(0);
            y.raise(0);
            y.back(0);
            is("count(0)", y.count(0), 1);
        });
    }

    private static void imagesKeep() {
        edge(39, "all that it keeps is as it was then: what was full", y -> {
            fill(y);
            for (int i = 0; i < 8; i++) {
                y.find(9, 31, 1);
            }
            for (int i = 0; i < 6; i++) {
                law(y, "moves " + i);
            }
            y.force(5);
            y.terms(0, 999);
            y.image(1);
            List<Integer> then = standing(y);
            while (y.count(0) > 0) {
                y.raise(0);
            }
            y.forget();
            y.force(-1);
            y.terms(0, 3);
            is("back(1)", y.back(1), 0);
            List<Integer> now = standing(y);
            // What can be undone is not kept.
            then.set(then.size() - 6, 0);
            is("all as then", now.equals(then) ? 1 : 0, 1);
            is("a seventh LAW", law(y, "goes"), -5);
            is("a ninth FOUND", y.find(0, 0, 0), -5);
            is("an eleventh PLOT", y.bury(0, 31, 0), -5);
            is("by the LAW", y.of(0, 4), 5);
        });
        edge(39, "all that it keeps is as it was then: what was empty", y -> {
            y.image(0);
            List<Integer> then = standing(y);
            fill(y);
            for (int i = 0; i < 6; i++) {
                law(y, "goes");
                y.find(9, 31, 1);
            }
            y.force(5);
            y.put(31, 0, 1);
            y.buy(31);
            y.back(0);
            isLeft("back(0)", y, then);
            is("no LAW", y.force(0), -2);
            is("the first LAW", law(y, "moves 3"), 0);
            is("the first FOUND", y.find(0, 0, 0), 1);
            is("the first PLOT", y.bury(0, 31, 0), 0);
        });
        edge(39, "all that it keeps is as it was then: a LAW, a thing FOUND that others came in place of", y -> {
            lay(y, 30);
            y.force(law(y, "moves 2;digs 9 % 5 if 1 = 1;bars if cell = 4;goes"));
            y.find(2, 9, 1);
            y.image(0);
            y.image(1);
            y.back(1);
            y.forget();
            y.find(3, 8, 0);
            y.image(1);
            y.back(0);
            is("LAW: MOVES", y.of(0, 4), 2);
            is("LAW: DIGS", y.of(0, 5), 4);
            is("LAW: BARS", y.barred(0, 4), 1);
            is("FOUND", y.hidden(-1), 1);
            is("FOUND", y.hidden(0), 5);
            y.back(1);
            is("FOUND", y.hidden(-1), 30);
        });
        edge(39, "all that it keeps is as it was then: no LAWS, then others under their numbers", y -> {
            lay(y, 30);
            y.image(0);
            y.force(law(y, "moves 2;digs 9 % 5 if 1 = 1;bars if cell = 4;goes"));
            y.image(1);
            y.back(0);
            y.force(law(y, "moves 3;digs 8"));
            is("another LAW: MOVES", y.of(0, 4), 3);
            is("another LAW: DIGS", y.of(0, 5), 8);
            y.put(31, 0, 3);
            is("another LAW: GOES", y.goes(0, 31), 0);
            y.back(1);
            is("LAW: MOVES", y.of(0, 4), 2);
            is("LAW: DIGS", y.of(0, 5), 4);
            is("LAW: BARS", y.barred(0, 4), 1);
            is("LAW: BARS", y.barred(0, 5), 0);
            y.put(31, 0, 3);
            is("LAW: GOES", y.goes(0, 31), 1);
        });
        edge(39, "IMAGES do not keep TAPE, FAULT, MOLES, BLOCKED, stopped, CENTURIES", y -> {
            y.image(0);
            lay(y, 5, 6);
            y.pass();
            tape(y, 9, 9, 9);
            y.row();
            law(y, "goes if");
            y.centuries(5, 1);
            is("plots", y.drawn(2, 0), 28);
            orders(y, "raise 9");
            law(y, "goes if");
            tape(y, "goes");
            y.back(0);
            is("TAPE", y.count(6), 4);
            is("FAULT", y.fault(), 7);
            is("MOLES", y.moles(), 2);
            is("BLOCKED", y.blocked(), 1);
            is("stopped", y.stopped(), 0);
            is("CENTURIES", y.drawn(2, 0), 28);
        });
        edge(39, "how many calls were REFUSED (IMAGES do not keep that)", y -> {
            y.image(0);
            y.put(32, 0, 0);
            y.raise(0);
            y.buy(0);
            for (int i = 0; i < 9; i++) {
                y.find(0, 0, 0);
            }
            y.row();
            y.back(0);
            for (int what = 7; what < 12; what++) {
                is("count(" + what + ")", y.count(what), 1);
            }
        });
    }

    private static void counts() {
        edge(40, "0 PLOTS .. 16 TERMS; NONE for others", y -> {
            for (int what : beyond(0, 16)) {
                is("count(" + what + ")", y.count(what), -1);
            }
            is("count(16)", y.count(16), 0);
        });
        edge(40, "PLOTS, walls, CELLS that are BOUGHT, FOUND, LAWS, what can be undone, the TAPE: as many as can be", y -> {
            for (int cell = 0; cell < 32; cell++) {
                y.put(cell, 0, 1);
            }
            for (int cell = 0; cell < 32; cell++) {
                y.buy(cell);
            }
            is("walls", y.count(1), 32);
            is("BOUGHT", y.count(2), 32);
            is("undone", y.count(5), 16);
            for (int i = 0; i < 10; i++) {
                y.put(i, 0, 0);
                y.bury(0, i, 0);
                y.find(0, 0, 0);
                law(y, "goes");
            }
            is("PLOTS", y.count(0), 10);
            is("walls", y.count(1), 22);
            is("FOUND", y.count(3), 8);
            is("LAWS", y.count(4), 6);
            for (int i = 0; i < 20; i++) {
                y.feed(0, 0, 0, 0, 0);
            }
            is("TAPE", y.count(6), 400);
        });
        edge(40, "how many calls were REFUSED by -1, -2, -3, -5, -6", y -> {
            int[] want = new int[5];
            y.terms(4, 0);
            isRefused(y, want, 0);
            y.force(0);
            isRefused(y, want, 1);
            y.undo();
            isRefused(y, want, 2);
            for (int i = 0; i < 9; i++) {
                y.find(0, 0, 0);
            }
            isRefused(y, want, 3);
            y.law();
            isRefused(y, want, 4);
            orders(y, "raise 9");
            isRefused(y, want, 2);
            orders(y, "bury 9 at 0");
            isRefused(y, want, 2);
        });
        edge(40, "answers of NONE are not REFUSED", y -> {
            y.at(32, 0);
            y.of(0, 0);
            y.goes(0, 0);
            y.barred(6, 0);
            y.end(1);
            y.where(0, 0);
            y.ways(0, 0, 0, 0);
            y.packed(0);
            y.meets(61, 0);
            y.meet(0, 0, 0, 0);
            y.hidden(32);
            y.spade(21, 0);
            y.compare(0, 0);
            y.arrives(0, 0, 0);
            y.round(0);
            y.drawn(0, 0);
            y.count(17);
            for (int what = 7; what < 12; what++) {
                is("count(" + what + ")", y.count(what), 0);
            }
            is("status()", y.status(), 0);
        });
    }

    private static void isRefused(YardYear y, int[] want, int by) {
        want[by]++;
        for (int i = 0; i < 5; i++) {
            is("count(" + (7 + i) + ")", y.count(7 + i), want[i]);
        }
    }

    private static void statuses() {
        edge(41, "0 ahead of any", y -> is("status()", y.status(), 0));
        edge(41, "put", y -> {
            refused(y, y.put(32, 0, 0), -1);
            done(y, y.put(0, 0, 0), 0);
            refused(y, y.put(0, 2, 1), -3);
            done(y, y.put(0, 2, 0), 0);
        });
        edge(41, "terms", y -> {
            refused(y, y.terms(2, 11), -1);
            done(y, y.terms(2, 10), 2);
        });
        edge(41, "row", y -> {
            refused(y, y.row(), -6);
            tape(y, 9);
            done(y, y.row(), 0);
        });
        edge(41, "law", y -> {
            refused(y, y.law(), -6);
            done(y, law(y, "goes"), 0);
            for (int i = 1; i < 6; i++) {
                law(y, "goes");
            }
            refused(y, law(y, "goes"), -5);
        });
        edge(41, "orders", y -> {
            refused(y, y.orders(), -6);
            done(y, orders(y, "pass"), 1);
            refused(y, orders(y, "raise 0"), -3);
            done(y, orders(y, "raise 0 if 1 = 2"), 0);
            fill(y);
            refused(y, orders(y, "bury 0 at 30"), -5);
        });
        edge(41, "force", y -> {
            refused(y, y.force(0), -2);
            done(y, y.force(-1), -1);
        });
        edge(41, "bury", y -> {
            refused(y, y.bury(6, 0, 0), -1);
            done(y, y.bury(0, 0, 0), 0);
            refused(y, y.bury(0, 0, 0), -3);
            for (int i = 1; i < 10; i++) {
                done(y, y.bury(0, i, 0), i);
            }
            refused(y, y.bury(0, 31, 0), -5);
        });
        edge(41, "buy", y -> {
            y.put(0, 0, 1);
            refused(y, y.buy(32), -1);
            done(y, y.buy(0), 0);
            refused(y, y.buy(0), -3);
        });
        edge(41, "raise", y -> {
            refused(y, y.raise(0), -2);
            lay(y, 7);
            y.put(32, 0, 0);
            done(y, y.raise(0), 7);
        });
        edge(41, "pass, undo", y -> {
            y.terms(0, 998);
            refused(y, y.undo(), -3);
            done(y, y.pass(), 0);
            refused(y, y.pass(), -3);
            done(y, y.undo(), 3);
        });
        edge(41, "find", y -> {
            refused(y, y.find(10, 0, 0), -1);
            for (int i = 1; i < 9; i++) {
                done(y, y.find(0, 0, 0), i);
            }
            refused(y, y.find(0, 0, 0), -5);
        });
        edge(41, "centuries", y -> {
            refused(y, y.centuries(-1, 1), -1);
            done(y, y.centuries(5, 1), 1);
        });
        edge(41, "image, back", y -> {
            refused(y, y.image(2), -1);
            done(y, y.image(0), 0);
            refused(y, y.back(2), -1);
            done(y, y.back(0), 0);
            refused(y, y.back(1), -2);
        });
        edge(41, "questions leave it", y -> {
            y.put(32, 0, 0);
            y.feed(0, 0, 0, 0, 0);
            y.end(0);
            y.at(0, 0);
            y.barred(0, 0);
            y.forget();
            y.moles();
            y.fault();
            y.stopped();
            y.blocked();
            y.indoors();
            y.packed(-1);
            y.meets(0, -1);
            y.hidden(-1);
            y.spade(0, 0);
            y.compare(-1, 1);
            y.count(0);
            is("status()", y.status(), -1);
        });
    }

    private static void refused(YardYear y, int answer, int by) {
        is("a call", answer, by);
        is("status()", y.status(), by);
    }

    private static void done(YardYear y, int answer, int due) {
        is("a call", answer, due);
        is("status()", y.status(), 0);
    }
}
