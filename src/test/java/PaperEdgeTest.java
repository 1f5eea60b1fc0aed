import java.util.List;

/**
 * Promises 23 to 37, what would be: for each sentence that names a boundary case (too small, too large, empty, full,
 * round the ring, refused) a test of its own.
 */
public final class PaperEdgeTest extends YardTest {
    private static final long WHOLE = 1_000_000_000_000L;

    public static void main(String[] args) {
        where();
        indoors();
        waysNumbers();
        waysWalls();
        packedDays();
        packedRows();
        meetsNumbers();
        meetsBeside();
        meetNumbers();
        meetPlaces();
        find();
        hiddenNumbers();
        hiddenPlaces();
        spadeNumbers();
        spadeLeft();
        compare();
        arrivesNumbers();
        arrivesChances();
        round();
        centuriesNumbers();
        centuriesYears();
        centuriesBurials();
        centuriesLaws();
        drawn();
        paperIsPaper();
        report("PaperEdgeTest");
    }

    private static void none(String what, long got) {
        is(what, got, -1);
    }

    private static void where() {
        edge(23, "behind n years 0 .. 100; NONE", y -> {
            lay(y, 5);
            is("where(0, 0)", y.where(0, 0), 5);
            is("where(0, 1)", y.where(0, 1), 6);
            is("where(0, 100)", y.where(0, 100), 105 % 32);
            for (int n : beyond(0, 100)) {
                none("where(0, " + n + ")", y.where(0, n));
            }
        });
        edge(23, "a PLOT; NONE", y -> {
            none("without PLOTS", y.where(0, 0));
            fill(y);
            for (int plot : beyond(0, 9)) {
                none("where(" + plot + ", 1)", y.where(plot, 1));
            }
            is("where(9, 1)", y.where(9, 1), 28);
        });
        edge(23, "EAST of 31 is 0", y -> {
            lay(y, 31);
            is("where(0, 1)", y.where(0, 1), 0);
            is("where(0, 32)", y.where(0, 32), 31);
            is("where(0, 33)", y.where(0, 33), 0);
        });
        edge(23, "On paper; YEAR goes on behind 999", y -> {
            lay(y, 5);
            y.terms(0, 999);
            is("where(0, 1)", y.where(0, 1), 6);
            is("where(0, 100)", y.where(0, 100), 105 % 32);
            y.force(law(y, "moves 0;moves 3 if year = 1000;moves 7 if year = 1000 + 98"));
            is("at 999", y.where(0, 1), 5);
            is("at 1,000", y.where(0, 2), 8);
            is("till 1,098", y.where(0, 99), 8);
            is("at 1,098", y.where(0, 100), 15);
        });
        edge(23, "YEARS of all are one more (999 at most)", y -> {
            lay(y, 5);
            years(y, 999);
            int from = y.of(0, 0);
            y.force(law(y, "moves 0;moves 2 if years = 999;moves 7 if years > 999"));
            is("where(0, 3)", y.where(0, 3), (from + 6) % 32);
        });
    }

    private static void indoors() {
        edge(24, "0: now", y -> {
            y.put(6, 0, 1);
            y.buy(6);
            lay(y, 5);
            is("a year ahead", y.indoors(), 1);
            y.pass();
            is("now", y.indoors(), 0);
            y.put(6, 2, 0);
            is("though it is not BOUGHT any more", y.indoors(), 0);
        });
        edge(24, "the year 0 .. 200; NONE (not by then)", y -> {
            lay(y, 5);
            y.put(6, 0, 1);
            y.force(law(y, "goes;moves 0;moves 1 if years = 198"));
            is("199", y.indoors(), 199);
            y.force(law(y, "goes;moves 0;moves 1 if years = 199"));
            is("200", y.indoors(), 200);
            y.force(law(y, "goes;moves 0;moves 1 if years = 200"));
            none("201", y.indoors());
        });
        edge(24, "some PLOT", y -> {
            none("without PLOTS", y.indoors());
            y.put(31, 0, 1);
            y.buy(31);
            none("without PLOTS", y.indoors());
            fill(y);
            is("the tenth", y.indoors(), 4);
        });
        edge(24, "at whose end: one that goes through lies in none", y -> {
            y.put(6, 0, 1);
            y.buy(6);
            lay(y, 5);
            y.force(law(y, "moves 2"));
            none("indoors()", y.indoors());
            is("it goes through", y.where(0, 1), 7);
        });
        edge(24, "EAST of 31 is 0", y -> {
            y.put(0, 0, 1);
            y.buy(0);
            lay(y, 31);
            is("indoors()", y.indoors(), 1);
        });
        edge(24, "On paper; YEAR goes on behind 999", y -> {
            y.put(6, 0, 1);
            y.buy(6);
            lay(y, 5);
            y.terms(0, 999);
            is("indoors()", y.indoors(), 1);
            y.force(law(y, "moves 0;moves 1 if year > 1000 + 100"));
            is("indoors()", y.indoors(), 103);
        });
    }

    private static void waysNumbers() {
        edge(25, "in n years 0 .. 30; NONE", y -> {
            lay(y, 1);
            for (int n : beyond(0, 30)) {
                none("ways(0, 1, " + n + ", 0)", y.ways(0, 1, n, 0));
                none("ways(0, 1, " + n + ", 1)", y.ways(0, 1, n, 1));
            }
            is("in 30", y.ways(0, 31, 30, 0), 0);
            none("not in 29", y.ways(0, 31, 29, 0));
            none("it would be 31", y.ways(0, 0, 30, 0));
        });
        edge(25, "or now", y -> {
            lay(y, 1);
            is("ways(0, 1, 0, 0)", y.ways(0, 1, 0, 0), 0);
            is("ways(0, 1, 0, 1)", y.ways(0, 1, 0, 1), 0);
            none("ways(0, 2, 0, 0)", y.ways(0, 2, 0, 0));
        });
        edge(25, "a PLOT to a CELL; NONE", y -> {
            none("without PLOTS", y.ways(0, 0, 0, 0));
            lay(y, 0);
            for (int plot : beyond(0, 0)) {
                none("ways(" + plot + ", 0, 0, 0)", y.ways(plot, 0, 0, 0));
            }
            for (int cell : beyond(0, 31)) {
                none("ways(0, " + cell + ", 30, 0)", y.ways(0, cell, 30, 0));
            }
        });
        edge(25, "PRICES together (what 0), which CELLS (1); NONE", y -> {
            lay(y, 0);
            for (int what : beyond(0, 1)) {
                none("ways(0, 0, 0, " + what + ")", y.ways(0, 0, 0, what));
            }
        });
        edge(25, "EAST of 31 is 0; CELLS as bits: 0 and 31", y -> {
            for (int cell : new int[] {31, 0}) {
                y.put(cell, 0, 1);
                y.put(cell, 1, 99);
            }
            lay(y, 30);
            is("ways(0, 31, 1, 1)", y.ways(0, 31, 1, 1), 1L << 31);
            is("ways(0, 1, 3, 1)", y.ways(0, 1, 3, 1), (1L << 31) + 1);
            is("ways(0, 1, 3, 0)", y.ways(0, 1, 3, 0), 198);
            none("in two years", y.ways(0, 1, 2, 1));
        });
        edge(25, "On paper; YEAR goes on behind 999", y -> {
            y.put(3, 0, 1);
            y.put(3, 1, 5);
            lay(y, 1);
            y.terms(0, 999);
            is("ways(0, 4, 3, 0)", y.ways(0, 4, 3, 0), 5);
            y.force(law(y, "moves 0;moves 1 if year > 1000"));
            none("too soon", y.ways(0, 3, 3, 0));
            is("ways(0, 3, 4, 0)", y.ways(0, 3, 4, 0), 5);
        });
    }

    private static void waysWalls() {
        edge(25, "NONE (more than 8 walls are not BOUGHT)", y -> {
            for (int cell = 10; cell < 18; cell++) {
                y.put(cell, 0, 1);
                y.put(cell, 1, 99);
            }
            lay(y, 8);
            is("eight", y.ways(0, 18, 10, 0), 8 * 99);
            is("eight", y.ways(0, 18, 10, 1), 0x3fc00);
            y.put(30, 0, 1);
            none("nine", y.ways(0, 18, 10, 0));
            none("nine, where it lies now", y.ways(0, 8, 0, 1));
            y.put(30, 2, 1);
            is("nine, one BOUGHT", y.ways(0, 18, 10, 0), 8 * 99);
            y.put(30, 2, 0);
            y.put(30, 0, 3);
            is("eight again", y.ways(0, 8, 0, 1), 0);
        });
        edge(25, "NONE (it can't be)", y -> {
            y.put(3, 0, 3);
            lay(y, 1, 5);
            none("into water", y.ways(0, 3, 30, 0));
            none("through water", y.ways(0, 4, 30, 1));
            is("up to it", y.ways(0, 2, 30, 1), 0);
            y.force(law(y, "moves 2"));
            none("not at the end of a year", y.ways(1, 6, 14, 0));
        });
        edge(25, "the least PRICES together: 0", y -> {
            y.put(3, 0, 1);
            lay(y, 1);
            is("of a wall that costs nothing", y.ways(0, 3, 2, 0), 0);
            is("that must be bought", y.ways(0, 3, 2, 1), 8);
            is("none must be", y.ways(0, 2, 2, 1), 0);
        });
        edge(25, "the lowest as bits", y -> {
            y.force(law(y, "goes;moves 1;moves 2 if bought = 1"));
            y.put(10, 0, 1);
            y.put(20, 0, 1);
            y.put(10, 1, 5);
            y.put(20, 1, 5);
            lay(y, 0);
            is("of one PRICE", y.ways(0, 22, 21, 1), 1 << 10);
            y.put(20, 1, 4);
            is("the least PRICE ahead of that", y.ways(0, 22, 21, 1), 1 << 20);
            y.put(20, 1, 0);
            y.put(10, 1, 0);
            is("of none", y.ways(0, 22, 21, 1), 1 << 10);
        });
        edge(25, "walls that are not BOUGHT yet", y -> {
            y.put(3, 0, 1);
            y.put(3, 1, 7);
            y.buy(3);
            lay(y, 1);
            is("ways(0, 4, 3, 0)", y.ways(0, 4, 3, 0), 0);
            is("ways(0, 4, 3, 1)", y.ways(0, 4, 3, 1), 0);
        });
        edge(25, "has lain at the end of one of n years", y -> {
            lay(y, 1);
            is("and has gone on", y.ways(0, 3, 30, 0), 0);
            y.force(law(y, "moves 0;moves 1 if year = 29"));
            is("of the last", y.ways(0, 2, 30, 0), 0);
            none("ahead of that", y.ways(0, 2, 29, 0));
        });
    }

    private static void packedDays() {
        edge(26, "how many days (plot NONE): none without PLOTS", y -> {
            is("packed(-1)", y.packed(-1), 0);
            none("packed(0)", y.packed(0));
        });
        edge(26, "the day of a PLOT; NONE", y -> {
            lay(y, 3, 4);
            for (int plot : new int[] {-2, 2, 10, Integer.MIN_VALUE, Integer.MAX_VALUE}) {
                none("packed(" + plot + ")", y.packed(plot));
            }
            is("packed(1)", y.packed(1), 0);
        });
        edge(26, "NONE (one DIGS longer than LIGHT)", y -> {
            y.bury(0, 3, 1);
            y.bury(0, 5, 0);
            y.terms(1, 4);
            is("just as long", y.packed(-1), 2);
            is("just as long", y.packed(1), 1);
            y.terms(1, 3);
            none("days", y.packed(-1));
            none("of another one", y.packed(0));
            none("of itself", y.packed(1));
        });
        edge(26, "LIGHT 1 .. 99, DIGS 1 .. 99", y -> {
            fill(y);
            y.force(law(y, "digs 99"));
            y.terms(1, 99);
            is("a day each", y.packed(-1), 10);
            is("the tenth", y.packed(9), 9);
            y.terms(1, 98);
            none("too long", y.packed(-1));
            y.force(law(y, "digs 0"));
            y.terms(1, 1);
            is("a day each", y.packed(-1), 10);
            y.terms(1, 2);
            is("two a day", y.packed(-1), 5);
            y.terms(1, 9);
            is("all but one", y.packed(-1), 2);
            y.terms(1, 10);
            is("all on one", y.packed(-1), 1);
        });
        edge(26, "each within one day of LIGHT: just full, and one more", y -> {
            lay(y, 0, 2, 4, 6, 8);
            y.terms(1, 20);
            is("just full", y.packed(-1), 1);
            y.terms(1, 19);
            is("one too few", y.packed(-1), 2);
            is("the fourth", y.packed(3), 0);
            is("the fifth", y.packed(4), 1);
        });
    }

    private static void packed(YardYear y, int[] digs, int[] days) {
        y.force(law(y, "digs price"));
        y.terms(1, 10);
        for (int i = 0; i < digs.length; i++) {
            y.put(2 * i, 1, digs[i]);
            y.bury(0, 2 * i, 0);
        }
        int most = 0;
        for (int i = 0; i < digs.length; i++) {
            is("packed(" + i + ")", y.packed(i), days[i]);
            most = Math.max(most, days[i] + 1);
        }
        is("packed(-1)", y.packed(-1), most);
    }

    private static void packedRows() {
        edge(26, "the first as a row of days by PLOTS", y ->
            packed(y, new int[] {6, 5, 4, 5, 3, 7}, new int[] {0, 1, 0, 1, 2, 2}));
        edge(26, "the fewest days: not each on the first that has room", y ->
            packed(y, new int[] {3, 3, 4, 6, 7, 7}, new int[] {0, 1, 2, 2, 0, 1}));
        edge(26, "the fewest days ahead of the first row", y ->
            packed(y, new int[] {2, 5, 8, 5}, new int[] {0, 1, 0, 1}));
    }

    private static void meetsNumbers() {
        edge(27, "in n years 0 .. 60; NONE", y -> {
            lay(y, 0, 2);
            y.force(law(y, "moves 0;moves 1 if plot = 0 and years = 59"));
            is("in the last", y.meets(60, -1), 1);
            is("in the last", y.meets(60, 0), 6001);
            is("not ahead of it", y.meets(59, -1), 0);
            is("in none", y.meets(0, -1), 0);
            none("in none", y.meets(0, 0));
            for (int n : beyond(0, 60)) {
                none("meets(" + n + ", -1)", y.meets(n, -1));
                none("meets(" + n + ", 0)", y.meets(n, 0));
            }
        });
        edge(27, "how many (i NONE), the i-th; NONE", y -> {
            lay(y, 0, 2, 10, 12);
            y.force(law(y, "moves 0;moves 1 if plot % 2 = 0 and years = 0"));
            is("how many", y.meets(1, -1), 2);
            is("the first", y.meets(1, 0), 101);
            is("the last", y.meets(1, 1), 123);
            none("behind the last", y.meets(1, 2));
            none("far behind it", y.meets(1, Integer.MAX_VALUE));
            none("below NONE", y.meets(1, -2));
            none("far below", y.meets(1, Integer.MIN_VALUE));
        });
        edge(27, "two PLOTS: of none, of one there are none", y -> {
            is("of none", y.meets(60, -1), 0);
            none("of none", y.meets(60, 0));
            lay(y, 0);
            is("of one", y.meets(60, -1), 0);
        });
        edge(27, "the highest: PLOTS 8 and 9", y -> {
            fill(y);
            y.force(law(y, "moves 0;moves 1 if plot = 8 and years = 0"));
            none("25 and 27", y.meets(1, 0));
            y.force(law(y, "moves 0;moves 2 if plot = 8 and years = 0"));
            is("26 and 27", y.meets(1, 0), 189);
        });
        edge(27, "On paper; YEAR goes on behind 999", y -> {
            lay(y, 0, 2);
            y.terms(0, 999);
            y.force(law(y, "moves 0;moves 1 if plot = 0 and year = 1000"));
            is("meets(60, 0)", y.meets(60, 0), 201);
        });
    }

    private static void meetsBeside() {
        edge(27, "CELLS next to each other: 31 and 0", y -> {
            lay(y, 0, 30);
            y.force(law(y, "moves 0;moves 1 if plot = 1 and years = 0"));
            is("the higher one in 31", y.meets(1, 0), 101);
            y.raise(0);
            lay(y, 0);
            y.force(law(y, "moves 0;moves 1 if plot = 0 and years = 0"));
            is("the lower one in 31", y.meets(1, 0), 101);
        });
        edge(27, "those who lie BESIDE and did not a year ahead: not those who do now", y -> {
            lay(y, 5, 4);
            is("they go on side by side", y.where(0, 60) - y.where(1, 60), 1);
            is("how many", y.meets(60, -1), 0);
        });
        edge(27, "those who part and come together again", y -> {
            lay(y, 0, 1);
            y.force(law(y, "moves 0;moves 1 if plot = 1 and years % 2 = 0;moves 1 if plot = 0 and years % 2 = 1"));
            is("how many", y.meets(6, -1), 3);
            is("first", y.meets(6, 0), 201);
            is("second", y.meets(6, 1), 401);
            is("third", y.meets(6, 2), 601);
        });
        edge(27, "by the lower PLOT", y -> {
            lay(y, 10, 20, 22, 12);
            y.force(law(y, "moves 0;moves 1 if plot < 2 and years = 0"));
            is("first", y.meets(1, 0), 103);
            is("second", y.meets(1, 1), 112);
        });
        edge(27, "and the higher PLOT", y -> {
            lay(y, 8, 12, 6);
            y.force(law(y, "moves 0;moves 3 if plot = 0 and years = 0;moves 4 if plot = 2 and years = 0"));
            is("first", y.meets(1, 0), 101);
            is("second", y.meets(1, 1), 102);
        });
        edge(27, "by years ahead of PLOTS", y -> {
            lay(y, 0, 2, 4);
            y.force(law(y, "moves 0;moves 1 if plot = 1 and years = 0;moves 2 if plot = 0 and years = 1"));
            is("first", y.meets(2, 0), 112);
            is("second", y.meets(2, 1), 201);
            none("third", y.meets(2, 2));
        });
    }

    private static void meetNumbers() {
        edge(28, "within n years 0 .. 60; NONE", y -> {
            lay(y, 10);
            pave(y, 10, 12);
            y.force(law(y, "moves 0;moves 1 if plot = 0 and years = 59"));
            is("the CELL", y.meet(0, 0, 60, 0), 12);
            is("the year", y.meet(0, 0, 60, 1), 60);
            none("not within 59", y.meet(0, 0, 59, 0));
            none("nor its year", y.meet(0, 0, 59, 1));
            for (int n : beyond(0, 60)) {
                none("meet(0, 0, " + n + ", 0)", y.meet(0, 0, n, 0));
            }
        });
        edge(28, "first (0: now)", y -> {
            lay(y, 5);
            is("the CELL", y.meet(0, 0, 0, 0), 4);
            is("the year", y.meet(0, 0, 0, 1), 0);
            is("though there are more years", y.meet(0, 0, 60, 1), 0);
        });
        edge(28, "a PLOT, a FAMILY 0 .. 5; NONE", y -> {
            none("without PLOTS", y.meet(0, 0, 60, 0));
            lay(y, 5);
            for (int plot : beyond(0, 0)) {
                none("meet(" + plot + ", 0, 0, 0)", y.meet(plot, 0, 0, 0));
            }
            for (int family : beyond(0, 5)) {
                none("meet(0, " + family + ", 0, 0)", y.meet(0, family, 0, 0));
            }
            is("FAMILY 5", y.meet(0, 5, 0, 0), 4);
        });
        edge(28, "the CELL (what 0), the year (1); NONE", y -> {
            lay(y, 5);
            for (int what : beyond(0, 1)) {
                none("meet(0, 0, 0, " + what + ")", y.meet(0, 0, 0, what));
            }
        });
        edge(28, "NONE (no room)", y -> {
            fill(y);
            none("ten", y.meet(0, 0, 60, 0));
            none("ten", y.meet(0, 0, 60, 1));
            y.raise(9);
            is("nine", y.meet(0, 0, 60, 0), 1);
            is("nine", y.meet(8, 0, 60, 0), 23);
        });
        edge(28, "On paper; YEAR goes on behind 999", y -> {
            lay(y, 10);
            pave(y, 8, 10);
            y.terms(0, 999);
            y.force(law(y, "moves 0;moves 1 if plot = 1 and year = 1000"));
            is("the CELL", y.meet(0, 0, 60, 0), 8);
            is("the year", y.meet(0, 0, 60, 1), 2);
        });
    }

    private static void meetPlaces() {
        edge(28, "BESIDE: 31 and 0 are next to each other", y -> {
            lay(y, 0);
            y.put(1, 0, 2);
            is("to one in 0", y.meet(0, 0, 0, 0), 31);
            y.raise(0);
            lay(y, 31);
            is("to one in 31", y.meet(0, 0, 0, 0), 0);
        });
        edge(28, "NONE (nowhere)", y -> {
            lay(y, 5);
            y.force(law(y, "bars if family = 2;moves 0"));
            none("BARRED from all", y.meet(0, 2, 60, 0));
            none("BARRED from all", y.meet(0, 2, 60, 1));
            is("another FAMILY", y.meet(0, 3, 60, 0), 4);
            lay(y, 4, 6);
            none("those beside lie there", y.meet(0, 3, 60, 0));
            pave(y, 5);
            none("no grass", y.meet(0, 3, 60, 0));
        });
        edge(28, "the lowest", y -> {
            lay(y, 5);
            y.force(law(y, "moves 0;moves 1 if plot = 1 and years < 3"));
            y.put(4, 0, 2);
            is("now ahead of the lowest", y.meet(0, 0, 60, 0), 6);
            y.put(6, 0, 2);
            is("one year, not two", y.meet(0, 0, 60, 0), 3);
            y.put(3, 0, 2);
            is("two years", y.meet(0, 0, 60, 1), 2);
        });
        edge(28, "buried now (as the last PLOT, not SMALL)", y -> {
            y.bury(3, 10, 1);
            pave(y, 8, 10);
            y.force(law(y, "moves 0;moves 1 if plot = 1 and small = 0 and family = 3 and years = 0"));
            is("the year", y.meet(0, 3, 60, 1), 1);
            none("another FAMILY", y.meet(0, 2, 60, 1));
        });
    }

    private static void find() {
        edge(29, "behind k years 0 .. 9; -1", y -> {
            for (int k : beyond(0, 9)) {
                is("find(" + k + ", 0, 0)", y.find(k, 0, 0), -1);
                is("status()", y.status(), -1);
            }
            is("find(0, 0, 0)", y.find(0, 0, 0), 1);
            is("find(9, 0, 0)", y.find(9, 0, 0), 2);
        });
        edge(29, "a CELL 0 .. 31; -1", y -> {
            for (int cell : beyond(0, 31)) {
                is("find(0, " + cell + ", 0)", y.find(0, cell, 0), -1);
            }
            is("find(0, 0, 0)", y.find(0, 0, 0), 1);
            is("find(0, 31, 0)", y.find(0, 31, 0), 2);
        });
        edge(29, "has a PLOT (1) or has none (0); -1", y -> {
            for (int is : beyond(0, 1)) {
                is("find(0, 0, " + is + ")", y.find(0, 0, is), -1);
            }
            is("count(3)", y.count(3), 0);
            is("find(0, 0, 0)", y.find(0, 0, 0), 1);
            is("find(0, 0, 1)", y.find(0, 0, 1), 2);
        });
        edge(29, "FOUND, 8 at most; -5", y -> {
            for (int i = 1; i <= 8; i++) {
                is("find " + i, y.find(0, 9, 0), i);
            }
            is("a ninth", y.find(0, 10, 0), -5);
            is("status()", y.status(), -5);
            is("count(3)", y.count(3), 8);
            is("it is not FOUND", y.hidden(-1), 31);
            is("-1 ahead of -5", y.find(10, 0, 0), -1);
        });
        edge(30, "FOUND is nothing then: how much there was", y -> {
            is("of nothing", y.forget(), 0);
            for (int i = 0; i < 9; i++) {
                y.find(0, 9, 1);
            }
            is("of all", y.forget(), 8);
            is("count(3)", y.count(3), 0);
            is("again", y.forget(), 0);
            is("nothing is FOUND", y.hidden(-1), 32);
            is("find", y.find(0, 9, 1), 1);
        });
    }

    private static void hiddenNumbers() {
        edge(31, "how many CELLS (i NONE), the i-th; NONE", y -> {
            is("how many", y.hidden(-1), 32);
            is("the first", y.hidden(0), 0);
            is("the last", y.hidden(31), 31);
            none("behind the last", y.hidden(32));
            none("far behind it", y.hidden(Integer.MAX_VALUE));
            none("below NONE", y.hidden(-2));
            none("far below", y.hidden(Integer.MIN_VALUE));
        });
        edge(31, "NONE (no room for one PLOT more)", y -> {
            fill(y);
            none("how many", y.hidden(-1));
            none("the first", y.hidden(0));
            y.raise(9);
            is("how many", y.hidden(-1), 23);
            is("the last", y.hidden(22), 31);
        });
        edge(31, "behind k years 0 .. 9", y -> {
            y.find(0, 7, 1);
            is("now", y.hidden(-1), 1);
            is("now", y.hidden(0), 7);
            y.forget();
            y.find(9, 16, 1);
            is("behind nine", y.hidden(-1), 1);
            is("behind nine", y.hidden(0), 7);
        });
        edge(31, "EAST of 31 is 0", y -> {
            y.find(9, 3, 1);
            is("how many", y.hidden(-1), 1);
            is("the first", y.hidden(0), 26);
        });
        edge(31, "makes all FOUND so: all eight", y -> {
            for (int k = 0; k < 7; k++) {
                y.find(k, 7 + k, 1);
            }
            y.image(0);
            y.find(9, 16, 1);
            is("how many", y.hidden(-1), 1);
            y.back(0);
            y.find(9, 7, 1);
            is("but the eighth", y.hidden(-1), 0);
            none("the first", y.hidden(0));
        });
        edge(31, "On paper; YEAR goes on behind 999", y -> {
            y.terms(0, 999);
            y.force(law(y, "moves 0;moves 5 if year = 1000 + 5"));
            y.find(9, 12, 1);
            is("how many", y.hidden(-1), 1);
            is("the first", y.hidden(0), 7);
        });
    }

    private static void hiddenPlaces() {
        edge(31, "CELLS without PLOT, grass", y -> {
            lay(y, 0);
            for (int kind = 1; kind < 4; kind++) {
                y.put(kind, 0, kind);
            }
            y.buy(1);
            is("how many", y.hidden(-1), 28);
            is("the first", y.hidden(0), 4);
            pave(y, 0);
            is("no grass", y.hidden(-1), 0);
            none("the first", y.hidden(0));
        });
        edge(31, "a CELL has a PLOT (1) or has none (0)", y -> {
            y.find(0, 7, 0);
            is("but one", y.hidden(-1), 31);
            is("but that", y.hidden(7), 8);
            y.find(0, 7, 1);
            is("both", y.hidden(-1), 0);
        });
        edge(31, "whichever PLOT it is", y -> {
            lay(y, 4);
            y.find(0, 4, 1);
            is("it is there", y.hidden(-1), 31);
            y.find(0, 4, 0);
            is("it is there", y.hidden(-1), 0);
        });
        edge(31, "as the last one, FAMILY 0, not SMALL; BARS aside", y -> {
            y.bury(1, 4, 1);
            y.force(law(y, "bars;moves 0;moves 3 if plot = 1 and family = 0 and small = 0 and years = 0"));
            y.find(1, 9, 1);
            is("how many", y.hidden(-1), 1);
            is("the first", y.hidden(0), 6);
        });
    }

    private static void spadeNumbers() {
        edge(32, "behind n years 0 .. 20; NONE", y -> {
            pave(y, 3, 8);
            is("now", y.spade(0, 0), 3);
            is("behind 20", y.spade(20, 0), 23);
            is("behind 20", y.spade(20, 1), 1);
            for (int n : beyond(0, 20)) {
                none("spade(" + n + ", 0)", y.spade(n, 0));
                none("spade(" + n + ", 1)", y.spade(n, 1));
            }
        });
        edge(32, "the CELL (what 0), how many are left at most (1); NONE", y -> {
            for (int what : beyond(0, 1)) {
                none("spade(0, " + what + ")", y.spade(0, what));
            }
        });
        edge(32, "NONE (none HIDDEN)", y -> {
            y.find(0, 5, 1);
            is("one is", y.spade(0, 1), 1);
            y.find(0, 5, 0);
            none("none", y.spade(0, 0));
            none("none", y.spade(0, 1));
            y.forget();
            pave(y);
            none("no grass", y.spade(0, 0));
        });
        edge(32, "none HIDDEN: no room for one PLOT more", y -> {
            fill(y);
            none("ten", y.spade(0, 0));
            none("ten", y.spade(20, 1));
            y.raise(9);
            is("nine", y.spade(0, 0), 1);
            is("nine", y.spade(0, 1), 22);
        });
        edge(32, "EAST of 31 is 0", y -> {
            pave(y, 20, 30);
            is("spade(20, 0)", y.spade(20, 0), 8);
            pave(y, 30);
            y.put(31, 0, 0);
            is("spade(1, 0)", y.spade(1, 0), 0);
        });
        edge(32, "On paper; YEAR goes on behind 999", y -> {
            pave(y, 3, 8);
            y.terms(0, 999);
            is("spade(20, 0)", y.spade(20, 0), 23);
            y.force(law(y, "moves 0;moves 2 if year = 1000"));
            is("spade(1, 0)", y.spade(1, 0), 3);
            is("spade(2, 0)", y.spade(2, 0), 5);
        });
    }

    private static void spadeLeft() {
        edge(32, "the more of both is least for: of 32, of one", y -> {
            is("of 32", y.spade(0, 0), 0);
            is("are left", y.spade(0, 1), 31);
            pave(y, 8);
            is("of one", y.spade(0, 0), 0);
            is("is left", y.spade(0, 1), 1);
        });
        edge(32, "(it has a PLOT then, or none)", y -> {
            pave(y, 10, 11, 20, 21);
            y.force(law(y, "moves 0;moves 1 if cell = 10 and years = 0"));
            is("now", y.spade(0, 0), 10);
            is("three", y.spade(0, 1), 3);
            is("two come together", y.spade(1, 0), 11);
            is("half of them", y.spade(1, 1), 2);
        });
        edge(32, "of those HIDDEN: a PLOT that lies there anyway tells nothing", y -> {
            lay(y, 2);
            pave(y, 2, 5, 9);
            is("the CELL", y.spade(0, 0), 5);
            is("are left", y.spade(0, 1), 1);
        });
        edge(32, "(it has a PLOT then, or none): more than half have, all have", y -> {
            pave(y, 5, 6, 7);
            y.put(8, 0, 3);
            y.force(law(y, "moves 9;moves 0 if cell = 5"));
            is("5 or 7, the lowest", y.spade(1, 0), 5);
            is("are left", y.spade(1, 1), 2);
            y.force(law(y, "moves 9"));
            is("all come to 7", y.spade(1, 0), 0);
            is("are left", y.spade(1, 1), 3);
        });
    }

    private static void compare() {
        edge(33, "for n years 1 .. 60; NONE", y -> {
            lay(y, 0);
            is("one", y.compare(-1, 1), 1);
            is("sixty, round the ring", y.compare(-1, 60), 60);
            for (int n : beyond(1, 60)) {
                none("compare(-1, " + n + ")", y.compare(-1, n));
            }
        });
        edge(33, "a LAW (NONE: none); NONE", y -> {
            lay(y, 0);
            for (int law : new int[] {0, 5, 6, -2, Integer.MIN_VALUE, Integer.MAX_VALUE}) {
                none("compare(" + law + ", 1)", y.compare(law, 1));
            }
            for (int i = 0; i < 6; i++) {
                none("not made yet", y.compare(i, 1));
                law(y, "moves " + (i + 2));
                is("compare(" + i + ", 1)", y.compare(i, 1), i + 2);
            }
            none("compare(6, 1)", y.compare(6, 1));
        });
        edge(33, "how many CELLS all PLOTS move together: 0 without PLOTS", y -> {
            is("compare(-1, 60)", y.compare(-1, 60), 0);
            y.force(law(y, "moves 9"));
            is("compare(0, 60)", y.compare(0, 60), 0);
        });
        edge(33, "in place of that in FORCE (NONE: none)", y -> {
            fill(y);
            y.force(law(y, "moves 2"));
            law(y, "moves 0");
            is("none", y.compare(-1, 1), 10);
            is("that in FORCE", y.compare(0, 1), 20);
            is("another", y.compare(1, 1), 0);
            is("it stays in FORCE", y.count(12), 0);
            is("it stays in FORCE", y.of(0, 4), 2);
        });
        edge(33, "On paper; YEAR goes on behind 999", y -> {
            lay(y, 0);
            y.terms(0, 999);
            is("compare(-1, 60)", y.compare(-1, 60), 60);
            law(y, "moves 0;moves 4 if year = 1000 + 58");
            is("compare(0, 60)", y.compare(0, 60), 4);
            is("compare(0, 59)", y.compare(0, 59), 0);
        });
    }

    private static void arrivesNumbers() {
        edge(34, "within n years 0 .. 40; NONE", y -> {
            lay(y, 0);
            for (int n : beyond(0, 40)) {
                none("arrives(0, 0, " + n + ")", y.arrives(0, 0, n));
            }
            y.terms(2, 0);
            y.force(law(y, "moves 0;moves 1 if years = 39"));
            is("in forty", y.arrives(0, 1, 40), WHOLE);
            is("not in 39", y.arrives(0, 1, 39), 0);
            y.terms(2, 1);
            long part = WHOLE;
            for (int i = 0; i < 40; i++) {
                part = part * 9 / 10;
            }
            is("none of forty may be lost", y.arrives(0, 1, 40), part);
        });
        edge(34, "or now", y -> {
            lay(y, 5);
            is("arrives(0, 5, 0)", y.arrives(0, 5, 0), WHOLE);
            is("arrives(0, 6, 0)", y.arrives(0, 6, 0), 0);
            is("and goes on", y.arrives(0, 5, 40), WHOLE);
        });
        edge(34, "of a PLOT in a CELL; NONE", y -> {
            none("without PLOTS", y.arrives(0, 0, 0));
            lay(y, 0);
            for (int plot : beyond(0, 0)) {
                none("arrives(" + plot + ", 0, 0)", y.arrives(plot, 0, 0));
            }
            for (int cell : beyond(0, 31)) {
                none("arrives(0, " + cell + ", 40)", y.arrives(0, cell, 40));
            }
        });
        edge(34, "EAST of 31 is 0", y -> {
            lay(y, 31);
            is("arrives(0, 0, 1)", y.arrives(0, 0, 1), WHOLE / 10 * 8);
            is("arrives(0, 30, 30)", y.arrives(0, 30, 30), 0);
        });
        edge(34, "On paper; YEAR goes on behind 999", y -> {
            lay(y, 5);
            y.terms(0, 999);
            y.terms(2, 0);
            is("arrives(0, 7, 2)", y.arrives(0, 7, 2), WHOLE);
            y.force(law(y, "moves 0;moves 2 if year = 1000"));
            is("arrives(0, 7, 2)", y.arrives(0, 7, 2), WHOLE);
            is("arrives(0, 7, 1)", y.arrives(0, 7, 1), 0);
        });
    }

    private static void arrivesChances() {
        edge(34, "in FROST of ten: FROST 0, FROST 10", y -> {
            lay(y, 5);
            y.terms(2, 0);
            is("FROST 0", y.arrives(0, 8, 3), WHOLE);
            is("too far", y.arrives(0, 9, 3), 0);
            y.terms(2, 10);
            is("FROST 10", y.arrives(0, 6, 40), 0);
            is("FROST 10, now", y.arrives(0, 5, 40), WHOLE);
            y.terms(2, 9);
            is("FROST 9", y.arrives(0, 7, 2), WHOLE / 100);
            y.terms(2, 1);
            is("FROST 1", y.arrives(0, 7, 2), WHOLE / 100 * 81);
        });
        edge(34, "YEARS and YEAR of laws go on as if it were not there", y -> {
            lay(y, 5);
            y.terms(2, 5);
            y.force(law(y, "moves 0;moves 1 if year = 0"));
            is("YEAR 0 comes", y.arrives(0, 6, 3), WHOLE / 8 * 7);
            y.force(law(y, "moves 0;moves 1 if years = 1"));
            is("YEARS 1 come", y.arrives(0, 6, 3), WHOLE / 2);
        });
        edge(34, "0: it can't be", y -> {
            lay(y, 5);
            y.put(7, 0, 3);
            is("in water", y.arrives(0, 7, 40), 0);
            is("ahead of it", y.arrives(0, 6, 1), WHOLE / 10 * 8);
            y.put(7, 0, 0);
            y.force(law(y, "moves 2"));
            is("not at the end of a year", y.arrives(0, 6, 15), 0);
        });
        edge(34, "each part is cut", y -> {
            lay(y, 0);
            y.terms(2, 3);
            // Of 531,441 parts that are left behind 12 years 372,008 (.7) come in the 13th, 159,432 (.3) are left.
            is("behind 12", y.arrives(0, 1, 12), WHOLE - 531_441);
            is("behind 13", y.arrives(0, 1, 13), WHOLE - 531_441 + 372_008);
            is("behind 14", y.arrives(0, 1, 14), WHOLE - 531_441 + 372_008 + 111_602);
        });
    }

    private static void round() {
        edge(35, "in how many years: NONE (not in 200)", y -> {
            lay(y, 5);
            y.force(law(y, "moves 0;moves 8 if years > 195"));
            is("in 200", y.round(0), 200);
            y.force(law(y, "moves 0;moves 8 if years > 196"));
            none("in 201", y.round(0));
        });
        edge(35, "32 CELLS or more together", y -> {
            lay(y, 5);
            is("by ones", y.round(0), 32);
            y.force(law(y, "moves 8"));
            is("just 32", y.round(0), 4);
            y.force(law(y, "moves 9"));
            is("more", y.round(0), 4);
            y.force(law(y, "moves 0;moves 1 if years < 31"));
            none("31", y.round(0));
            y.force(law(y, "moves 0;moves 1 if years < 32"));
            is("32", y.round(0), 32);
        });
        edge(35, "a PLOT; NONE", y -> {
            none("without PLOTS", y.round(0));
            fill(y);
            for (int plot : beyond(0, 9)) {
                none("round(" + plot + ")", y.round(plot));
            }
            is("round(9)", y.round(9), 32);
        });
        edge(35, "one that is BLOCKED does not come round", y -> {
            lay(y, 5);
            y.put(4, 0, 3);
            none("31 CELLS of 32", y.round(0));
            y.put(4, 0, 1);
            y.buy(4);
            is("through a wall that is BOUGHT", y.round(0), 32);
            y.force(law(y, "moves 0"));
            none("it stays", y.round(0));
        });
        edge(35, "On paper; YEAR goes on behind 999", y -> {
            lay(y, 5);
            y.terms(0, 999);
            is("round(0)", y.round(0), 32);
            y.force(law(y, "moves 8;moves 0 if year < 1000 + 3"));
            is("round(0)", y.round(0), 8);
        });
    }

    private static void centuriesNumbers() {
        edge(36, "s is the SEED (0 .. 1,000,000); -1", y -> {
            for (int seed : beyond(0, 1_000_000)) {
                is("centuries(" + seed + ", 1)", y.centuries(seed, 1), -1);
                is("status()", y.status(), -1);
            }
            is("centuries(0, 1)", y.centuries(0, 1), 1);
            drawsByHand(y, 0);
            is("centuries(1000000, 1)", y.centuries(1_000_000, 1), 1);
            drawsByHand(y, 1_000_000);
        });
        edge(36, "n years 1 .. 100; -1", y -> {
            lay(y, 5);
            for (int n : beyond(1, 100)) {
                is("centuries(5, " + n + ")", y.centuries(5, n), -1);
                is("status()", y.status(), -1);
            }
            y.centuries(5, 1);
            is("one", y.drawn(0, 2), 1);
            y.centuries(5, 100);
            is("a hundred", y.drawn(0, 2), 100);
        });
    }

    /** Where one is buried in the first year on a ring of grass. */
    private static void drawsByHand(YardYear y, long seed) {
        long s = (seed * 1103 + 12345) % 1_000_003;
        s = (s * 1103 + 12345) % 1_000_003;
        is("its CELL", y.drawn(0, 0), s % 32);
        s = (s * 1103 + 12345) % 1_000_003;
        is("its FAMILY", y.drawn(0, 1), s % 6);
        is("its YEARS", y.drawn(0, 2), 0);
    }

    private static void centuriesYears() {
        edge(36, "as long as YEAR is below 999", y -> {
            lay(y, 5);
            y.terms(0, 998);
            is("at 998", y.centuries(5, 100), 2);
            is("one year", y.drawn(0, 2), 1);
            y.terms(0, 999);
            is("at 999", y.centuries(5, 100), 1);
            is("none", y.drawn(0, 2), 0);
            is("where it lay", y.drawn(0, 0), 5);
            y.terms(0, 900);
            y.centuries(5, 100);
            is("at 900", y.drawn(0, 2), 99);
            y.terms(0, 899);
            y.centuries(5, 100);
            is("at 899", y.drawn(0, 2), 100);
        });
        edge(36, "below FROST nobody moves: the DRAW is 0", y -> {
            lay(y, 5);
            y.terms(2, 0);
            y.centuries(5, 1);
            is("FROST 0", y.drawn(0, 0), 6);
            y.terms(2, 1);
            y.centuries(5, 1);
            is("FROST 1", y.drawn(0, 0), 5);
            is("YEARS one more", y.drawn(0, 2), 1);
        });
        edge(36, "below FROST nobody moves: the DRAW is 9", y -> {
            lay(y, 5);
            y.terms(2, 9);
            y.centuries(8, 1);
            is("FROST 9", y.drawn(0, 0), 6);
            y.terms(2, 10);
            y.centuries(8, 1);
            is("FROST 10", y.drawn(0, 0), 5);
            y.centuries(8, 100);
            is("in a hundred years", y.drawn(0, 0), 5);
        });
        edge(36, "it is the next YEAR, whether nobody moves or it passes", y -> {
            lay(y, 5);
            y.force(law(y, "bars if year = 1"));
            is("BURIED in the next YEAR", y.centuries(5, 1), 1);
            y.terms(2, 0);
            is("BURIED in the next YEAR", y.centuries(5, 1), 1);
        });
        edge(36, "YEARS of all are one more (999 at most)", y -> {
            lay(y, 5);
            years(y, 999);
            y.terms(0, 0);
            y.terms(2, 10);
            y.centuries(5, 2);
            is("nobody moves", y.drawn(0, 2), 999);
            y.terms(2, 0);
            y.centuries(5, 2);
            is("it passes", y.drawn(0, 2), 999);
        });
        edge(36, "EAST of 31 is 0", y -> {
            lay(y, 31);
            y.terms(2, 0);
            y.centuries(5, 1);
            is("drawn(0, 0)", y.drawn(0, 0), 0);
        });
    }

    private static void centuriesBurials() {
        edge(36, "and there is room", y -> {
            fill(y);
            is("of ten", y.centuries(5, 100), 10);
            is("the tenth", y.drawn(9, 2), 100);
            y.raise(9);
            is("of nine", y.centuries(5, 100), 10);
            is("the tenth is another one", y.drawn(9, 2) < 100 ? 1 : 0, 1);
            y.force(law(y, "bars"));
            is("all BARRED", y.centuries(5, 100), 9);
        });
        // By hand: SEED 5 draws 0, CELL 28, FAMILY 0 in its first year, 4, CELL 8, FAMILY 4 in its second.
        edge(36, "if one can be BURIED there: in grass", y -> {
            for (int kind = 0; kind < 4; kind++) {
                y.put(28, 0, kind);
                is("KIND " + kind, y.centuries(5, 1), kind == 0 ? 1 : 0);
            }
        });
        edge(36, "if one can be BURIED there: without a PLOT", y -> {
            lay(y, 28);
            is("it stays there", y.centuries(5, 1), 1);
            y.terms(2, 0);
            is("it has gone on", y.centuries(5, 1), 2);
        });
        edge(36, "if one can be BURIED there: its FAMILY not BARRED", y -> {
            y.force(law(y, "bars if family = 0 and cell = 28"));
            is("BARRED", y.centuries(5, 1), 0);
            y.force(law(y, "bars if family > 0 or cell < 28"));
            is("not BARRED", y.centuries(5, 1), 1);
        });
        edge(36, "of the FAMILY a DRAW of 6 tells (drawn always)", y -> {
            y.put(28, 0, 2);
            is("of the second year", y.centuries(5, 2), 1);
            is("its CELL", y.drawn(0, 0), 8);
            is("its FAMILY", y.drawn(0, 1), 4);
            is("its YEARS", y.drawn(0, 2), 0);
        });
    }

    private static void centuriesLaws() {
        edge(36, "if one can be BURIED there ..., it is (not SMALL)", y -> {
            y.force(law(y, "moves small"));
            is("of two years", y.centuries(5, 2), 2);
            is("it has not moved", y.drawn(0, 0), 28);
            is("though it might have", y.drawn(0, 2), 1);
            y.force(law(y, "moves 1 - small"));
            y.centuries(5, 2);
            is("it has moved", y.drawn(0, 0), 29);
        });
    }

    private static void drawn() {
        edge(37, "Behind the latest CENTURIES; NONE", y -> {
            lay(y, 5);
            for (int what = 0; what < 3; what++) {
                none("ahead of any", y.drawn(0, what));
            }
            y.centuries(5, 101);
            none("a REFUSED one is none", y.drawn(0, 0));
        });
        edge(37, "of PLOT k; NONE", y -> {
            fill(y);
            y.centuries(5, 1);
            for (int k : beyond(0, 9)) {
                none("drawn(" + k + ", 0)", y.drawn(k, 0));
            }
            is("drawn(9, 0)", y.drawn(9, 0), 27);
        });
        edge(37, "the CELL (what 0), FAMILY (1), YEARS (2); NONE", y -> {
            y.bury(5, 3, 1);
            y.centuries(5, 1);
            for (int what : beyond(0, 2)) {
                none("drawn(0, " + what + ")", y.drawn(0, what));
            }
            is("drawn(0, 0)", y.drawn(0, 0), 3);
            is("drawn(0, 1)", y.drawn(0, 1), 5);
            is("drawn(0, 2)", y.drawn(0, 2), 1);
        });
        edge(37, "the latest: another one with fewer PLOTS", y -> {
            is("one", y.centuries(5, 1), 1);
            is("drawn(0, 0)", y.drawn(0, 0), 28);
            y.terms(0, 999);
            is("none", y.centuries(5, 1), 0);
            none("drawn(0, 0)", y.drawn(0, 0));
        });
        edge(37, "the latest: REFUSED ones, other calls leave it", y -> {
            y.image(0);
            y.centuries(5, 1);
            y.centuries(-1, 1);
            y.centuries(5, 0);
            lay(y, 9);
            y.pass();
            y.raise(0);
            y.undo();
            y.back(0);
            is("drawn(0, 0)", y.drawn(0, 0), 28);
            is("drawn(0, 2)", y.drawn(0, 2), 0);
        });
    }

    private static void paperIsPaper() {
        edge(23, "On paper: questions change nothing that stands", y -> {
            y.put(9, 0, 1);
            y.put(9, 1, 5);
            lay(y, 2, 7, 31);
            y.force(law(y, "moves 2"));
            law(y, "moves 3");
            y.find(1, 9, 0);
            y.pass();
            List<Integer> ahead = standing(y);
            y.where(0, 100);
            y.indoors();
            y.ways(0, 12, 30, 1);
            y.packed(-1);
            y.meets(60, 0);
            y.meet(0, 0, 60, 0);
            y.hidden(0);
            y.spade(20, 0);
            y.compare(1, 60);
            y.arrives(0, 12, 40);
            y.round(0);
            y.centuries(5, 100);
            isLeft("questions", y, ahead);
            is("blocked()", y.blocked(), 1);
            is("undo()", y.undo(), 3);
        });
    }
}
