/** A graveyard that moves eastward round a ring of cells, a yard or so a year. */
public final class YardYear {
    /** There is none. */
    public static final int NONE = -1;

    private static final int CELLS = 32;
    private static final int PLOTS = 10;
    private static final int FAMILIES = 6;
    private static final int TERMS = 4;
    private static final int FOUND = 8;
    private static final int FOUND_YEARS = 10;
    private static final int LAWS = 6;
    private static final int IMAGES = 2;
    private static final int UNDOS = 16;
    private static final int TAPE = 400;
    private static final int OPEN_WALLS = 8;
    private static final int LAST_YEAR = 999;
    private static final int TOP_PRICE = 99;
    private static final int TOP_SEED = 1000000;
    private static final long WHOLE = 1000000000000L;

    private static final int GRASS = 0;
    private static final int WALL = 1;
    private static final int PATH = 2;
    private static final int WATER = 3;

    private static final int KIND = 0;
    private static final int PRICE = 1;
    private static final int BOUGHT = 2;
    private static final int PLOT = 3;

    private static final int YEAR = 0;
    private static final int LIGHT = 1;
    private static final int FROST = 2;
    private static final int MOOD = 3;

    private static final int BAD_NUMBER = -1;
    private static final int NO_SUCH = -2;
    private static final int CANNOT_BE = -3;
    private static final int NO_ROOM = -5;
    private static final int BAD_TEXT = -6;
    private static final int REFUSALS = 7;

    // The verbs of a LAW.
    private static final int MOVES = 0;
    private static final int DIGS = 1;
    private static final int GOES = 2;
    private static final int BARS = 3;
    private static final String LAW_VERBS = "moves digs goes bars";
    private static final String LAW_WORDS = "plot cell kind price bought family small years year mood";
    private static final int LAW_WORD_COUNT = 10;

    // The verbs of ORDERS have the numbers that undo() answers with.
    private static final int BURY = 0;
    private static final int BUY = 1;
    private static final int RAISE = 2;
    private static final int PASS = 3;
    private static final String ORDER_VERBS = "bury buy raise pass";
    private static final String ORDER_WORDS = "year plots done moved at kind bought";

    // Where the words of ORDERS stand in their row: "at", "kind", "bought" have a place for each number.
    private static final int AT_WORD = 4;
    private static final int KIND_WORD = 5;
    private static final int BOUGHT_WORD = 6;
    private static final int AT_PLACE = 4;
    private static final int KIND_PLACE = AT_PLACE + PLOTS;
    private static final int BOUGHT_PLACE = KIND_PLACE + CELLS;
    private static final int ORDER_PLACES = BOUGHT_PLACE + CELLS;

    private static final int CLAUSES = 12;
    private static final int PARTS = 50;
    private static final int BRACKETS = 8;
    private static final int TOP_TIMES = 20;
    private static final int TOP_NUMBER = 1000;
    private static final long TOP_SUM = 1000000000L;
    private static final int STACK = 40;

    // A number that no SUM comes to.
    private static final int BROKEN = Integer.MIN_VALUE;

    // Steps of a TEXT's code; those of two values are the bytes of their signs, from '%' (37) on.
    private static final int PUSH_NUMBER = 0;
    private static final int PUSH_WORD = 1;
    private static final int NOT = 2;
    private static final int AND = 3;
    private static final int OR = 4;
    private static final int DONE = 5;

    // Sorts of TOKENS.
    private static final int THE_END = 0;
    private static final int LETTERS = 1;
    private static final int DIGITS = 2;
    private static final int SIGN = 3;

    private final Sexton sexton = new Sexton();
    private final Yard yard = sexton.yard;
    private final Past past = sexton.past;
    private final Finds finds = new Finds();
    private final Laws laws = new Laws();
    private final Image[] images = {new Image(), new Image()};
    private final Paper paper = new Paper();
    private final Packer packer = new Packer();
    private final Draws draws = new Draws();
    private final Reader reader = new Reader();
    private final int[] refusals = new int[REFUSALS];
    private int moleCount;
    private int faultPlace = NONE;
    private int latestRefusal;

    public YardYear() {
    }

    public int put(int cell, int what, int value) {
        if (!isCell(cell) || !isFact(what, value)) {
            return refused(BAD_NUMBER);
        }
        if (!yard.mayWrite(cell, what, value)) {
            return refused(CANNOT_BE);
        }
        int was = yard.fact(cell, what);
        past.kept = 0;
        yard.write(cell, what, value);
        return granted(was);
    }

    public int at(int cell, int what) {
        if (!isCell(cell)) {
            return NONE;
        }
        return what == PLOT ? yard.plotIn(cell) : yard.fact(cell, what);
    }

    public int of(int plot, int what) {
        if (!yard.hasPlot(plot)) {
            return NONE;
        }
        switch (what) {
            case 0:
                return yard.cell[plot];
            case 1:
                return yard.family[plot];
            case 2:
                return yard.small[plot];
            case 3:
                return yard.years[plot];
            case 4:
                return yard.movesOf(plot);
            case 5:
                return yard.digsOf(plot);
            default:
                return NONE;
        }
    }

    public int goes(int plot, int cell) {
        if (!yard.hasPlot(plot) || !isCell(cell)) {
            return NONE;
        }
        return yard.mayGo(plot, cell) ? 1 : 0;
    }

    public int barred(int family, int cell) {
        if (!isFamily(family) || !isCell(cell)) {
            return NONE;
        }
        return yard.isBarred(family, cell) ? 1 : 0;
    }

    public int terms(int what, int value) {
        if (!isTerm(what, value)) {
            return refused(BAD_NUMBER);
        }
        int was = yard.term[what];
        past.kept = 0;
        yard.term[what] = value;
        return granted(was);
    }

    public int feed(int a, int b, int c, int d, int e) {
        if (reader.taped > TAPE - 20) {
            return NONE;
        }
        reader.append(a);
        reader.append(b);
        reader.append(c);
        reader.append(d);
        reader.append(e);
        return reader.taped;
    }

    public int end(int n) {
        if (n < 0 || n > reader.taped) {
            return NONE;
        }
        reader.taped = n;
        return n;
    }

    public int row() {
        if (reader.taped == 0) {
            return refused(BAD_TEXT);
        }
        int told = 0;
        moleCount = 0;
        for (int i = 0; i < reader.taped; i += 2) {
            boolean isWhole = i + 1 < reader.taped && i + 1 < TAPE;
            if (isWhole && yard.writeCell(i / 2, reader.tape[i], reader.tape[i + 1])) {
                told++;
            } else {
                moleCount++;
            }
        }
        reader.taped = 0;
        past.kept = 0;
        return granted(told);
    }

    public int moles() {
        return moleCount;
    }

    public int law() {
        Text next = laws.next();
        if (next == null) {
            reader.taped = 0;
            return refused(NO_ROOM);
        }
        faultPlace = reader.read(next, false);
        if (faultPlace != NONE) {
            return refused(BAD_TEXT);
        }
        laws.made++;
        return granted(laws.made - 1);
    }

    public int orders() {
        Text ordered = reader.ordered;
        sexton.stoppedAt = NONE;
        faultPlace = reader.read(ordered, true);
        if (faultPlace != NONE) {
            return refused(BAD_TEXT);
        }
        sexton.beginOrders();
        for (int i = 0; i < ordered.clauses && i < CLAUSES; i++) {
            for (int time = 0; time < ordered.times[i]; time++) {
                int answer = sexton.obey(ordered, i);
                if (answer < 0) {
                    sexton.giveUpOrders(i);
                    return refused(answer == NO_ROOM ? NO_ROOM : CANNOT_BE);
                }
            }
        }
        return granted(sexton.done);
    }

    public int fault() {
        return faultPlace;
    }

    public int stopped() {
        return sexton.stoppedAt;
    }

    public int force(int law) {
        if (law != NONE && !laws.has(law)) {
            return refused(NO_SUCH);
        }
        int was = laws.inForce;
        laws.inForce = law;
        yard.law = laws.numbered(law);
        return granted(was);
    }

    public int bury(int family, int cell, int small) {
        if (!isYesNo(small)) {
            return refused(BAD_NUMBER);
        }
        return answered(sexton.layDown(family, cell, small));
    }

    public int buy(int cell) {
        return answered(sexton.purchase(cell));
    }

    public int raise(int plot) {
        return answered(sexton.takeUp(plot));
    }

    public int pass() {
        return answered(sexton.bringYear());
    }

    public int blocked() {
        return sexton.latestHeld;
    }

    public int undo() {
        return answered(past.takeBack(yard));
    }

    public int where(int plot, int n) {
        if (!yard.hasPlot(plot) || !isWithin(n, 0, 100)) {
            return NONE;
        }
        return paper.cellBehind(yard, plot, n);
    }

    public int indoors() {
        return paper.firstIndoors(yard);
    }

    public long ways(int plot, int cell, int n, int what) {
        if (!yard.hasPlot(plot) || !isCell(cell) || !isWithin(n, 0, Paper.WAYS_YEARS) || !isYesNo(what)) {
            return NONE;
        }
        if (!paper.findWays(yard, plot, cell, n)) {
            return NONE;
        }
        return what == 0 ? paper.leastPrice : paper.leastBits;
    }

    public int packed(int plot) {
        if (plot != NONE && !yard.hasPlot(plot)) {
            return NONE;
        }
        int days = packer.fewestDays(yard);
        return plot == NONE || days == NONE ? days : packer.day[plot];
    }

    public int meets(int n, int i) {
        if (!isWithin(n, 0, Paper.MEET_YEARS) || i < NONE) {
            return NONE;
        }
        return paper.meeting(yard, n, i);
    }

    public int meet(int plot, int family, int n, int what) {
        if (!yard.hasPlot(plot) || !isFamily(family) || !isWithin(n, 0, Paper.MEET_YEARS) || !isYesNo(what)) {
            return NONE;
        }
        if (!paper.findMeet(yard, plot, family, n)) {
            return NONE;
        }
        return what == 0 ? paper.bestCell : paper.bestNumber;
    }

    public int find(int k, int cell, int is) {
        if (!isWithin(k, 0, FOUND_YEARS - 1) || !isCell(cell) || !isYesNo(is)) {
            return refused(BAD_NUMBER);
        }
        return answered(finds.add(k, cell, is));
    }

    public int forget() {
        int was = finds.count;
        finds.count = 0;
        return was;
    }

    public int hidden(int i) {
        if (i < NONE || yard.plots >= PLOTS) {
            return NONE;
        }
        return paper.hiddenCell(yard, finds, i);
    }

    public int spade(int n, int what) {
        if (!isWithin(n, 0, Paper.SPADE_YEARS) || !isYesNo(what) || yard.plots >= PLOTS) {
            return NONE;
        }
        if (!paper.findSpade(yard, finds, n)) {
            return NONE;
        }
        return what == 0 ? paper.bestCell : paper.bestNumber;
    }

    public int compare(int law, int n) {
        if (law != NONE && !laws.has(law) || !isWithin(n, 1, 60)) {
            return NONE;
        }
        return paper.movedBy(yard, laws.numbered(law), n);
    }

    public long arrives(int plot, int cell, int n) {
        if (!yard.hasPlot(plot) || !isCell(cell) || !isWithin(n, 0, Paper.ARRIVE_YEARS)) {
            return NONE;
        }
        return paper.chanceOf(yard, plot, cell, n);
    }

    public int round(int plot) {
        return yard.hasPlot(plot) ? paper.yearsRound(yard, plot) : NONE;
    }

    public int centuries(int seed, int n) {
        if (!isWithin(seed, 0, TOP_SEED) || !isWithin(n, 1, 100)) {
            return refused(BAD_NUMBER);
        }
        return granted(draws.run(yard, seed, n));
    }

    public int drawn(int k, int what) {
        Yard then = draws.sheet;
        if (!then.hasPlot(k)) {
            return NONE;
        }
        switch (what) {
            case 0:
                return then.cell[k];
            case 1:
                return then.family[k];
            case 2:
                return then.years[k];
            default:
                return NONE;
        }
    }

    public int image(int k) {
        if (!isWithin(k, 0, IMAGES - 1)) {
            return refused(BAD_NUMBER);
        }
        images[k].keep(yard, finds, laws);
        return granted(0);
    }

    public int back(int k) {
        if (!isWithin(k, 0, IMAGES - 1)) {
            return refused(BAD_NUMBER);
        }
        if (!images[k].isKept) {
            return refused(NO_SUCH);
        }
        images[k].giveBack(yard, finds, laws);
        yard.law = laws.numbered(laws.inForce);
        past.kept = 0;
        return granted(0);
    }

    public int count(int what) {
        switch (what) {
            case 0:
                return yard.plots;
            case 1:
                return yard.walls();
            case 2:
                return yard.purchases();
            case 3:
                return finds.count;
            case 4:
                return laws.made;
            case 5:
                return past.kept;
            case 6:
                return reader.taped;
            case 7:
                return refusals[-BAD_NUMBER];
            case 8:
                return refusals[-NO_SUCH];
            case 9:
                return refusals[-CANNOT_BE];
            case 10:
                return refusals[-NO_ROOM];
            case 11:
                return refusals[-BAD_TEXT];
            case 12:
                return laws.inForce;
            default:
                return isWithin(what, 13, 12 + TERMS) ? yard.term[what - 13] : NONE;
        }
    }

    public int status() {
        return latestRefusal;
    }

    private int granted(int answer) {
        latestRefusal = 0;
        return answer;
    }

    private int refused(int by) {
        latestRefusal = by;
        if (by < 0 && by > -REFUSALS) {
            refusals[-by]++;
        }
        return by;
    }

    // Fits calls that never answer below 0 when they are not REFUSED.
    private int answered(int answer) {
        return answer < 0 ? refused(answer) : granted(answer);
    }

    private static boolean isWithin(int number, int least, int most) {
        return number >= least && number <= most;
    }

    private static boolean isCell(int number) {
        return number >= 0 && number < CELLS;
    }

    private static boolean isFamily(int number) {
        return number >= 0 && number < FAMILIES;
    }

    private static boolean isYesNo(int number) {
        return number == 0 || number == 1;
    }

    private static boolean isFact(int what, int value) {
        switch (what) {
            case KIND:
                return isWithin(value, GRASS, WATER);
            case PRICE:
                return isWithin(value, 0, TOP_PRICE);
            case BOUGHT:
                return isYesNo(value);
            default:
                return false;
        }
    }

    private static boolean isTerm(int what, int value) {
        switch (what) {
            case YEAR:
                return isWithin(value, 0, LAST_YEAR);
            case LIGHT:
                return isWithin(value, 1, 99);
            case FROST:
                return isWithin(value, 0, 10);
            case MOOD:
                return isWithin(value, 0, 9);
            default:
                return false;
        }
    }

    /** The cells, the plots and the terms: one yard stands, the others are paper. */
    private static final class Yard {
        private final int[] kind = new int[CELLS];
        private final int[] price = new int[CELLS];
        private final int[] bought = new int[CELLS];
        private final int[] cell = new int[PLOTS];
        private final int[] family = new int[PLOTS];
        private final int[] small = new int[PLOTS];
        private final int[] years = new int[PLOTS];
        private final int[] term = new int[TERMS];
        private final int[] words = new int[LAW_WORD_COUNT];
        private Text law;
        private int plots;
        private int moved;
        private int held;

        Yard() {
            term[LIGHT] = 20;
            term[FROST] = 2;
        }

        // The LAW stays as it is: no undone act had put one in force.
        void copyFrom(Yard other) {
            System.arraycopy(other.kind, 0, kind, 0, CELLS);
            System.arraycopy(other.price, 0, price, 0, CELLS);
            System.arraycopy(other.bought, 0, bought, 0, CELLS);
            System.arraycopy(other.cell, 0, cell, 0, PLOTS);
            System.arraycopy(other.family, 0, family, 0, PLOTS);
            System.arraycopy(other.small, 0, small, 0, PLOTS);
            System.arraycopy(other.years, 0, years, 0, PLOTS);
            System.arraycopy(other.term, 0, term, 0, TERMS);
            plots = other.plots;
        }

        boolean hasPlot(int plot) {
            return plot >= 0 && plot < plots && plot < PLOTS;
        }

        int plotIn(int where) {
            for (int plot = 0; plot < plots && plot < PLOTS; plot++) {
                if (cell[plot] == where) {
                    return plot;
                }
            }
            return NONE;
        }

        int walls() {
            int count = 0;
            for (int where = 0; where < CELLS; where++) {
                count += kind[where] == WALL ? 1 : 0;
            }
            return count;
        }

        int purchases() {
            int count = 0;
            for (int where = 0; where < CELLS; where++) {
                count += bought[where];
            }
            return count;
        }

        int fact(int where, int what) {
            switch (what) {
                case KIND:
                    return kind[where];
                case PRICE:
                    return price[where];
                case BOUGHT:
                    return bought[where];
                default:
                    return NONE;
            }
        }

        boolean mayWrite(int where, int what, int value) {
            if (what == KIND) {
                return value == GRASS || value == PATH || plotIn(where) == NONE;
            }
            // Whatever is no wall isn't BOUGHT, and may be told so.
            return what != BOUGHT || value == 0 || kind[where] == WALL;
        }

        void write(int where, int what, int value) {
            if (what == KIND) {
                kind[where] = value;
                // Only a wall can be BOUGHT.
                bought[where] = value == WALL ? bought[where] : 0;
            } else if (what == PRICE) {
                price[where] = value;
            } else {
                bought[where] = value;
            }
        }

        boolean writeCell(int where, int newKind, int newPrice) {
            if (!isCell(where) || !isFact(KIND, newKind) || !isFact(PRICE, newPrice)
                    || !mayWrite(where, KIND, newKind)) {
                return false;
            }
            write(where, KIND, newKind);
            write(where, PRICE, newPrice);
            return true;
        }

        // With NONE for the plot it tells of a FAMILY that would be buried.
        private void tell(int plot, int ofFamily, int where) {
            words[0] = plot;
            words[1] = where;
            words[2] = kind[where];
            words[3] = price[where];
            words[4] = bought[where];
            words[5] = ofFamily;
            words[6] = plot == NONE ? NONE : small[plot];
            words[7] = plot == NONE ? 0 : years[plot];
            words[8] = term[YEAR];
            words[9] = term[MOOD];
        }

        int movesOf(int plot) {
            if (law == null) {
                return 1;
            }
            tell(plot, family[plot], cell[plot]);
            int told = law.last(MOVES, words);
            return told == BROKEN ? 1 : Math.max(0, Math.min(9, told));
        }

        int digsOf(int plot) {
            int usual = small[plot] == 1 ? 2 : 4;
            if (law == null) {
                return usual;
            }
            tell(plot, family[plot], cell[plot]);
            int told = law.last(DIGS, words);
            return told == BROKEN ? usual : Math.max(1, Math.min(99, told));
        }

        boolean mayGo(int plot, int where) {
            if (law != null && law.has(GOES)) {
                tell(plot, family[plot], where);
                return law.holds(GOES, words);
            }
            return kind[where] == WALL ? bought[where] == 1 : kind[where] != WATER;
        }

        boolean isBarred(int ofFamily, int where) {
            if (law == null) {
                return false;
            }
            tell(NONE, ofFamily, where);
            return law.holds(BARS, words);
        }

        boolean isFreeGrass(int where) {
            return kind[where] == GRASS && plotIn(where) == NONE;
        }

        boolean isOpenTo(int ofFamily, int where) {
            return isFreeGrass(where) && !isBarred(ofFamily, where);
        }

        boolean isAnyInWall() {
            for (int plot = 0; plot < plots && plot < PLOTS; plot++) {
                if (kind[cell[plot]] == WALL) {
                    return true;
                }
            }
            return false;
        }

        boolean areBeside(int plot, int other) {
            int apart = Math.floorMod(cell[plot] - cell[other], CELLS);
            return apart == 1 || apart == CELLS - 1;
        }

        void add(int ofFamily, int where, int isSmall) {
            if (plots < PLOTS) {
                cell[plots] = where;
                family[plots] = ofFamily;
                small[plots] = isSmall;
                years[plots] = 0;
                plots++;
            }
        }

        void remove(int plot) {
            for (int next = plot + 1; next > 0 && next < plots && next < PLOTS; next++) {
                cell[next - 1] = cell[next];
                family[next - 1] = family[next];
                small[next - 1] = small[next];
                years[next - 1] = years[next];
            }
            plots--;
        }

        void turnYear() {
            moved = 0;
            held = 0;
            for (int plot = 0; plot < plots && plot < PLOTS; plot++) {
                int most = movesOf(plot);
                for (int step = 0; step < most; step++) {
                    int east = (cell[plot] + 1) % CELLS;
                    if (plotIn(east) != NONE || !mayGo(plot, east)) {
                        held++;
                        break;
                    }
                    cell[plot] = east;
                    moved++;
                }
            }
            age();
        }

        // A year in which nobody moves.
        void age() {
            for (int plot = 0; plot < plots && plot < PLOTS; plot++) {
                years[plot] = Math.min(LAST_YEAR, years[plot] + 1);
            }
            term[YEAR]++;
        }
    }

    /** A LAW or ORDERS, read: its CLAUSES, and the code of their SUMS and TESTS. */
    private static final class Text {
        private int clauses;
        private final int[] verb = new int[CLAUSES];
        private final int[] times = new int[CLAUSES];
        private final int[] first = new int[CLAUSES];
        private final int[] second = new int[CLAUSES];
        private final int[] test = new int[CLAUSES];
        // No step without a token of its own, so that a TAPE's length is room enough.
        private final int[] step = new int[TAPE];
        private final int[] operand = new int[TAPE];
        private int steps;
        private final long[] stack = new long[STACK];

        void copyFrom(Text other) {
            clauses = other.clauses;
            steps = other.steps;
            System.arraycopy(other.verb, 0, verb, 0, CLAUSES);
            System.arraycopy(other.times, 0, times, 0, CLAUSES);
            System.arraycopy(other.first, 0, first, 0, CLAUSES);
            System.arraycopy(other.second, 0, second, 0, CLAUSES);
            System.arraycopy(other.test, 0, test, 0, CLAUSES);
            System.arraycopy(other.step, 0, step, 0, TAPE);
            System.arraycopy(other.operand, 0, operand, 0, TAPE);
        }

        void clear() {
            clauses = 0;
            steps = 0;
        }

        void open(int newVerb) {
            if (clauses < CLAUSES) {
                verb[clauses] = newVerb;
                times[clauses] = 1;
                first[clauses] = NONE;
                second[clauses] = NONE;
                test[clauses] = NONE;
            }
        }

        int emit(int newStep, int newOperand) {
            if (steps >= TAPE) {
                return NONE;
            }
            step[steps] = newStep;
            operand[steps] = newOperand;
            steps++;
            return steps - 1;
        }

        // Lets a jump go to what comes next.
        void land(int jump) {
            if (jump >= 0 && jump < TAPE) {
                operand[jump] = steps;
            }
        }

        boolean has(int sort) {
            for (int i = 0; i < clauses && i < CLAUSES; i++) {
                if (verb[i] == sort) {
                    return true;
                }
            }
            return false;
        }

        boolean holds(int sort, int[] words) {
            for (int i = 0; i < clauses && i < CLAUSES; i++) {
                if (verb[i] == sort && value(test[i], words) == 1) {
                    return true;
                }
            }
            return false;
        }

        int last(int sort, int[] words) {
            for (int i = Math.min(clauses, CLAUSES) - 1; i >= 0; i--) {
                if (verb[i] == sort && value(test[i], words) == 1) {
                    int told = value(first[i], words);
                    if (told != BROKEN) {
                        return told;
                    }
                }
            }
            return BROKEN;
        }

        // What isn't there (NONE) is 1: an "if" that a CLAUSE has not is so.
        int value(int from, int[] words) {
            if (from == NONE) {
                return 1;
            }
            int at = from;
            int top = 0;
            // Jumps go forward alone, so that no step comes twice.
            for (int i = 0; i < steps && at >= 0 && at < steps && at < TAPE && top < STACK; i++) {
                int now = step[at];
                int told = operand[at];
                at++;
                if (now == PUSH_NUMBER || now == PUSH_WORD && told >= 0 && told < words.length) {
                    stack[top] = now == PUSH_NUMBER ? told : words[told];
                    top++;
                } else if (top < 1 || now == DONE) {
                    return top < 1 ? BROKEN : (int) stack[top - 1];
                } else if (now == NOT) {
                    stack[top - 1] = 1 - stack[top - 1];
                } else if (now == AND || now == OR) {
                    boolean isSettled = stack[top - 1] == (now == OR ? 1 : 0);
                    at = isSettled ? told : at;
                    top = isSettled ? top : top - 1;
                } else {
                    top--;
                    if (top < 1 || !combine(now, top - 1)) {
                        return BROKEN;
                    }
                }
            }
            return BROKEN;
        }

        // Of two values the lower becomes what they come to, unless that is BROKEN.
        private boolean combine(int sign, int at) {
            if (at < 0 || at + 1 >= STACK) {
                return false;
            }
            long a = stack[at];
            long b = stack[at + 1];
            if (b == 0 && (sign == '/' || sign == '%')) {
                return false;
            }
            long result;
            switch (sign) {
                case '+':
                    result = a + b;
                    break;
                case '-':
                    result = a - b;
                    break;
                case '*':
                    result = a * b;
                    break;
                case '/':
                    result = a / b;
                    break;
                case '%':
                    result = a % b;
                    break;
                case '<':
                    result = a < b ? 1 : 0;
                    break;
                case '>':
                    result = a > b ? 1 : 0;
                    break;
                default:
                    result = a == b ? 1 : 0;
                    break;
            }
            stack[at] = result;
            return result <= TOP_SUM && result >= -TOP_SUM;
        }
    }

    /** The TAPE, and the reading of TEXTS from it: each part of that stops at the first TOKEN that can't go on. */
    private static final class Reader {
        private final int[] tape = new int[TAPE];
        private final Text ordered = new Text();
        private int taped;
        private int length;
        private Text text = ordered;
        private boolean isOrders;
        private int parts;
        private int from;
        private int to;
        private int sort;
        private int number;

        // Four bytes, the highest first.
        void append(int bytes) {
            for (int shift = 24; shift >= 0 && taped >= 0 && taped < TAPE; shift -= 8) {
                tape[taped] = bytes >>> shift & 255;
                taped++;
            }
        }

        /** The FAULT, NONE without; the TAPE is empty then. */
        int read(Text into, boolean areOrders) {
            length = Math.min(taped, TAPE);
            taped = 0;
            text = into;
            isOrders = areOrders;
            parts = 0;
            to = 0;
            text.clear();
            advance();
            for (int i = 0; i < CLAUSES; i++) {
                if (!readClause()) {
                    return from;
                }
                text.clauses++;
                if (sort == THE_END) {
                    return NONE;
                }
                if (!isSign(';')) {
                    return from;
                }
                advance();
            }
            return from;
        }

        private boolean readClause() {
            int i = text.clauses;
            int verb = wordIn(isOrders ? ORDER_VERBS : LAW_VERBS);
            if (verb == NONE || i < 0 || i >= CLAUSES) {
                return false;
            }
            text.open(verb);
            advance();
            if (isOrders ? !readActs(verb, i) : verb <= DIGS && !readWholeSum(text.first, i)) {
                return false;
            }
            if (!isWord("if")) {
                return true;
            }
            advance();
            text.test[i] = text.steps;
            if (!readTest(0)) {
                return false;
            }
            text.emit(DONE, 0);
            return true;
        }

        private boolean readActs(int verb, int i) {
            if (verb != PASS && !readWholeSum(text.first, i)) {
                return false;
            }
            if (verb == BURY) {
                if (!isWord("at")) {
                    return false;
                }
                advance();
                if (!readWholeSum(text.second, i)) {
                    return false;
                }
            }
            if (isWord("times")) {
                advance();
                if (sort != DIGITS || number < 1 || number > TOP_TIMES) {
                    return false;
                }
                text.times[i] = number;
                advance();
            }
            return true;
        }

        private boolean readWholeSum(int[] places, int i) {
            places[i] = text.steps;
            if (!readSum(0)) {
                return false;
            }
            text.emit(DONE, 0);
            return true;
        }

        private boolean readTest(int depth) {
            int and = NONE;
            int or = NONE;
            for (int i = 0; i < TAPE; i++) {
                if (!readPlain(depth)) {
                    return false;
                }
                text.land(and);
                and = NONE;
                if (isWord("and")) {
                    and = text.emit(AND, 0);
                } else {
                    text.land(or);
                    if (!isWord("or")) {
                        return true;
                    }
                    or = text.emit(OR, 0);
                }
                advance();
            }
            return false;
        }

        private boolean readPlain(int depth) {
            boolean isTurned = false;
            for (int i = 0; i < TAPE && isWord("not"); i++) {
                isTurned = !isTurned;
                advance();
            }
            if (isSign('(')) {
                if (depth >= BRACKETS) {
                    return false;
                }
                advance();
                if (!readTest(depth + 1) || !isSign(')')) {
                    return false;
                }
                advance();
            } else {
                if (!readSum(depth)) {
                    return false;
                }
                int sign = signIn("<>=");
                if (sign == NONE) {
                    return false;
                }
                advance();
                if (!readSum(depth)) {
                    return false;
                }
                text.emit(sign, 0);
            }
            if (isTurned) {
                text.emit(NOT, 0);
            }
            return true;
        }

        // TERMS are read here too: a sign of theirs is put at once, one between them when its TERM is whole.
        private boolean readSum(int depth) {
            int between = NONE;
            int within = NONE;
            for (int i = 0; i < TAPE; i++) {
                if (!readPart(depth)) {
                    return false;
                }
                if (within != NONE) {
                    text.emit(within, 0);
                }
                within = signIn("*/%");
                if (within == NONE) {
                    if (between != NONE) {
                        text.emit(between, 0);
                    }
                    between = signIn("+-");
                    if (between == NONE) {
                        return true;
                    }
                }
                advance();
            }
            return false;
        }

        private boolean readPart(int depth) {
            if (isSign('[')) {
                if (depth >= BRACKETS) {
                    return false;
                }
                advance();
                if (!readSum(depth + 1) || !isSign(']')) {
                    return false;
                }
            } else {
                if (parts >= PARTS) {
                    return false;
                }
                if (sort == DIGITS) {
                    if (number > TOP_NUMBER) {
                        return false;
                    }
                    text.emit(PUSH_NUMBER, number);
                } else {
                    int place = wordIn(isOrders ? ORDER_WORDS : LAW_WORDS);
                    if (isOrders && place >= AT_WORD) {
                        advance();
                        place = placeOf(place);
                    }
                    if (place == NONE) {
                        return false;
                    }
                    text.emit(PUSH_WORD, place);
                }
                parts++;
            }
            advance();
            return true;
        }

        // The place of a word of ORDERS with the number behind it, which is the TOKEN now.
        private int placeOf(int word) {
            if (sort != DIGITS || number >= (word == AT_WORD ? PLOTS : CELLS)) {
                return NONE;
            }
            switch (word) {
                case AT_WORD:
                    return AT_PLACE + number;
                case KIND_WORD:
                    return KIND_PLACE + number;
                default:
                    return BOUGHT_PLACE + number;
            }
        }

        private void advance() {
            from = to;
            while (from >= 0 && from < length && tape[from] == ' ') {
                from++;
            }
            to = from;
            number = 0;
            sort = THE_END;
            for (; to >= 0 && to < length; to++) {
                int sign = tape[to];
                int now = sign >= 'a' && sign <= 'z' ? LETTERS : sign >= '0' && sign <= '9' ? DIGITS : SIGN;
                if (sort != THE_END && (now != sort || now == SIGN)) {
                    return;
                }
                sort = now;
                if (now == DIGITS) {
                    // Kept where another digit can't wrap it round.
                    number = Math.min(TOP_NUMBER + 1, number * 10 + sign - '0');
                }
            }
        }

        private boolean isSign(int sign) {
            return sort == SIGN && from >= 0 && from < length && tape[from] == sign;
        }

        private int signIn(String signs) {
            if (sort != SIGN || from < 0 || from >= length || signs.indexOf((char) tape[from]) < 0) {
                return NONE;
            }
            return tape[from];
        }

        private boolean isWord(String word) {
            return wordIn(word) == 0;
        }

        // Which of the words, parted by blanks, the TOKEN is.
        private int wordIn(String words) {
            if (sort != LETTERS || from < 0 || to > length) {
                return NONE;
            }
            int word = 0;
            int same = 0;
            for (int i = 0; i <= words.length(); i++) {
                if (i == words.length() || words.charAt(i) == ' ') {
                    if (same == to - from) {
                        return word;
                    }
                    word++;
                    same = 0;
                } else if (same >= 0) {
                    boolean isLike = from + same < to && tape[from + same] == words.charAt(i);
                    same = isLike ? same + 1 : NONE;
                }
            }
            return NONE;
        }
    }

    /** Up to six LAWS and which of them is in FORCE. */
    private static final class Laws {
        private final Text[] texts = new Text[LAWS];
        private int made;
        private int inForce = NONE;

        Laws() {
            for (int i = 0; i < LAWS; i++) {
                texts[i] = new Text();
            }
        }

        void copyFrom(Laws other) {
            made = other.made;
            inForce = other.inForce;
            for (int i = 0; i < made && i < LAWS; i++) {
                texts[i].copyFrom(other.texts[i]);
            }
        }

        boolean has(int law) {
            return law >= 0 && law < made && law < LAWS;
        }

        Text numbered(int law) {
            return has(law) ? texts[law] : null;
        }

        // The sheet of the LAW to come, null without room.
        Text next() {
            return made >= 0 && made < LAWS ? texts[made] : null;
        }
    }

    /** Things FOUND. */
    private static final class Finds {
        private int count;
        private final int[] behind = new int[FOUND];
        private final int[] cell = new int[FOUND];
        private final int[] is = new int[FOUND];

        void copyFrom(Finds other) {
            count = other.count;
            System.arraycopy(other.behind, 0, behind, 0, FOUND);
            System.arraycopy(other.cell, 0, cell, 0, FOUND);
            System.arraycopy(other.is, 0, is, 0, FOUND);
        }

        int add(int k, int where, int isThere) {
            if (count >= FOUND) {
                return NO_ROOM;
            }
            behind[count] = k;
            cell[count] = where;
            is[count] = isThere;
            count++;
            return count;
        }

        // Behind how many years the latest was FOUND.
        int latest() {
            int most = 0;
            for (int i = 0; i < count && i < FOUND; i++) {
                most = Math.max(most, behind[i]);
            }
            return most;
        }

        boolean agree(Yard then, int k) {
            for (int i = 0; i < count && i < FOUND; i++) {
                if (behind[i] == k && (then.plotIn(cell[i]) == NONE) == (is[i] == 1)) {
                    return false;
                }
            }
            return true;
        }
    }

    /** An IMAGE. */
    private static final class Image {
        private final Yard keptYard = new Yard();
        private final Finds keptFinds = new Finds();
        private final Laws keptLaws = new Laws();
        private boolean isKept;

        void keep(Yard yard, Finds finds, Laws laws) {
            keptYard.copyFrom(yard);
            keptFinds.copyFrom(finds);
            keptLaws.copyFrom(laws);
            isKept = true;
        }

        void giveBack(Yard yard, Finds finds, Laws laws) {
            yard.copyFrom(keptYard);
            finds.copyFrom(keptFinds);
            laws.copyFrom(keptLaws);
        }
    }

    /** How all was ahead of each of the latest acts. */
    private static final class Past {
        private final Yard[] before = new Yard[UNDOS];
        private final int[] act = new int[UNDOS];
        private int kept;

        Past() {
            for (int i = 0; i < UNDOS; i++) {
                before[i] = new Yard();
            }
        }

        void copyFrom(Past other) {
            kept = other.kept;
            for (int i = 0; i < kept && i < UNDOS; i++) {
                before[i].copyFrom(other.before[i]);
                act[i] = other.act[i];
            }
        }

        void keep(Yard yard, int newAct) {
            if (kept >= UNDOS) {
                dropOldest();
            }
            before[kept].copyFrom(yard);
            act[kept] = newAct;
            kept++;
        }

        private void dropOldest() {
            Yard oldest = before[0];
            for (int i = 1; i < UNDOS; i++) {
                before[i - 1] = before[i];
                act[i - 1] = act[i];
            }
            // Its sheet is written anew.
            before[UNDOS - 1] = oldest;
            kept = UNDOS - 1;
        }

        int takeBack(Yard yard) {
            if (kept < 1 || kept > UNDOS) {
                return CANNOT_BE;
            }
            kept--;
            yard.copyFrom(before[kept]);
            return act[kept];
        }
    }

    /** Buries, buys, raises, lets years pass: by calls and by ORDERS. */
    private static final class Sexton {
        private final Yard yard = new Yard();
        private final Past past = new Past();
        private final Yard yardAhead = new Yard();
        private final Past pastAhead = new Past();
        private final int[] words = new int[ORDER_PLACES];
        private int heldAhead;
        private int latestHeld;
        private int latestMoved;
        private int done;
        private int stoppedAt = NONE;

        int layDown(int family, int cell, int small) {
            if (!isFamily(family) || !isCell(cell)) {
                return BAD_NUMBER;
            }
            if (!yard.isOpenTo(family, cell)) {
                return CANNOT_BE;
            }
            if (yard.plots >= PLOTS) {
                return NO_ROOM;
            }
            past.keep(yard, BURY);
            yard.add(family, cell, small);
            return yard.plots - 1;
        }

        int purchase(int cell) {
            if (!isCell(cell)) {
                return BAD_NUMBER;
            }
            if (yard.kind[cell] != WALL || yard.bought[cell] == 1) {
                return CANNOT_BE;
            }
            past.keep(yard, BUY);
            yard.bought[cell] = 1;
            return yard.price[cell];
        }

        int takeUp(int plot) {
            if (!yard.hasPlot(plot)) {
                return NO_SUCH;
            }
            past.keep(yard, RAISE);
            int was = yard.cell[plot];
            yard.remove(plot);
            return was;
        }

        int bringYear() {
            if (yard.term[YEAR] >= LAST_YEAR) {
                return CANNOT_BE;
            }
            past.keep(yard, PASS);
            yard.turnYear();
            latestHeld = yard.held;
            latestMoved = yard.moved;
            return latestMoved;
        }

        void beginOrders() {
            yardAhead.copyFrom(yard);
            pastAhead.copyFrom(past);
            heldAhead = latestHeld;
            latestMoved = NONE;
            done = 0;
        }

        void giveUpOrders(int clause) {
            yard.copyFrom(yardAhead);
            past.copyFrom(pastAhead);
            latestHeld = heldAhead;
            stoppedAt = clause;
        }

        // Runs a CLAUSE once if its "if" is so: below 0 if it can't be.
        int obey(Text text, int clause) {
            tell();
            if (text.value(text.test[clause], words) != 1) {
                return 0;
            }
            int first = text.value(text.first[clause], words);
            int second = text.value(text.second[clause], words);
            if (first == BROKEN || second == BROKEN) {
                return CANNOT_BE;
            }
            done++;
            switch (text.verb[clause]) {
                case BURY:
                    return layDown(first, second, 0);
                case BUY:
                    return purchase(first);
                case RAISE:
                    return takeUp(first);
                default:
                    return bringYear();
            }
        }

        private void tell() {
            words[0] = yard.term[YEAR];
            words[1] = yard.plots;
            words[2] = done;
            words[3] = latestMoved;
            for (int plot = 0; plot < PLOTS; plot++) {
                words[AT_PLACE + plot] = plot < yard.plots ? yard.cell[plot] : NONE;
            }
            for (int cell = 0; cell < CELLS; cell++) {
                words[KIND_PLACE + cell] = yard.kind[cell];
                words[BOUGHT_PLACE + cell] = yard.bought[cell];
            }
        }
    }

    /** What would be: answers found on a sheet of paper. */
    private static final class Paper {
        private static final int WAYS_YEARS = 30;
        private static final int INDOORS_YEARS = 200;
        private static final int ROUND_YEARS = 200;
        private static final int MEET_YEARS = 60;
        private static final int SPADE_YEARS = 20;
        private static final int ARRIVE_YEARS = 40;

        private final Yard sheet = new Yard();
        private final Yard ahead = new Yard();
        private final int[] wall = new int[OPEN_WALLS];
        private final int[] seen = new int[CELLS];
        private final long[] chance = new long[ARRIVE_YEARS + 1];
        private long leastPrice;
        private long leastBits;
        private int bestCell;
        private int bestNumber;

        private void begin(Yard yard) {
            sheet.copyFrom(yard);
            sheet.law = yard.law;
        }

        int cellBehind(Yard yard, int plot, int n) {
            begin(yard);
            for (int year = 0; year < n; year++) {
                sheet.turnYear();
            }
            return sheet.cell[plot];
        }

        int firstIndoors(Yard yard) {
            begin(yard);
            for (int year = 0; year <= INDOORS_YEARS; year++) {
                if (sheet.isAnyInWall()) {
                    return year;
                }
                sheet.turnYear();
            }
            return NONE;
        }

        boolean findWays(Yard yard, int plot, int where, int n) {
            int walls = listOpenWalls(yard);
            if (walls == NONE) {
                return false;
            }
            boolean isFound = false;
            // Sets go by their bits, so that the first of one price is the lowest.
            for (int set = 0; set < 1 << walls; set++) {
                begin(yard);
                long sum = 0;
                long bits = 0;
                for (int i = 0; i < walls && i < OPEN_WALLS; i++) {
                    if ((set >> i & 1) == 1) {
                        sheet.bought[wall[i]] = 1;
                        sum += sheet.price[wall[i]];
                        bits |= 1L << wall[i];
                    }
                }
                boolean isCheaper = !isFound || sum < leastPrice;
                if (isCheaper && yearIn(plot, where, n) != NONE) {
                    isFound = true;
                    leastPrice = sum;
                    leastBits = bits;
                }
            }
            return isFound;
        }

        // Walls that are not BOUGHT, NONE if they are too many.
        private int listOpenWalls(Yard yard) {
            int walls = 0;
            for (int where = 0; where < CELLS; where++) {
                if (yard.kind[where] == WALL && yard.bought[where] == 0) {
                    if (walls >= OPEN_WALLS) {
                        return NONE;
                    }
                    wall[walls] = where;
                    walls++;
                }
            }
            return walls;
        }

        // The first year at whose end a PLOT of the sheet lies in a CELL.
        private int yearIn(int plot, int where, int n) {
            for (int year = 0; year <= n; year++) {
                if (sheet.cell[plot] == where) {
                    return year;
                }
                if (year < n) {
                    sheet.turnYear();
                }
            }
            return NONE;
        }

        int meeting(Yard yard, int n, int i) {
            begin(yard);
            int count = 0;
            for (int year = 1; year <= n; year++) {
                ahead.copyFrom(sheet);
                sheet.turnYear();
                for (int lower = 0; lower < sheet.plots; lower++) {
                    for (int higher = lower + 1; higher < sheet.plots; higher++) {
                        if (sheet.areBeside(lower, higher) && !ahead.areBeside(lower, higher)) {
                            if (count == i) {
                                return 100 * year + 10 * lower + higher;
                            }
                            count++;
                        }
                    }
                }
            }
            return i == NONE ? count : NONE;
        }

        boolean findMeet(Yard yard, int plot, int family, int n) {
            bestCell = NONE;
            if (yard.plots >= PLOTS) {
                return false;
            }
            for (int where = 0; where < CELLS; where++) {
                if (yard.isOpenTo(family, where)) {
                    int year = yearBeside(yard, plot, family, where, n);
                    if (year != NONE && (bestCell == NONE || year < bestNumber)) {
                        bestCell = where;
                        bestNumber = year;
                    }
                }
            }
            return bestCell != NONE;
        }

        private int yearBeside(Yard yard, int plot, int family, int where, int n) {
            begin(yard);
            int newest = sheet.plots;
            sheet.add(family, where, 0);
            for (int year = 0; year <= n; year++) {
                if (sheet.areBeside(plot, newest)) {
                    return year;
                }
                if (year < n) {
                    sheet.turnYear();
                }
            }
            return NONE;
        }

        int hiddenCell(Yard yard, Finds finds, int i) {
            int count = 0;
            for (int where = 0; where < CELLS; where++) {
                if (yard.isFreeGrass(where) && agrees(yard, finds, where)) {
                    if (count == i) {
                        return where;
                    }
                    count++;
                }
            }
            return i == NONE ? count : NONE;
        }

        // Whether one PLOT more in a CELL makes all FOUND so.
        private boolean agrees(Yard yard, Finds finds, int where) {
            begin(yard);
            sheet.add(0, where, 0);
            int latest = finds.latest();
            for (int k = 0; k <= latest; k++) {
                if (!finds.agree(sheet, k)) {
                    return false;
                }
                if (k < latest) {
                    sheet.turnYear();
                }
            }
            return true;
        }

        boolean findSpade(Yard yard, Finds finds, int n) {
            for (int where = 0; where < CELLS; where++) {
                seen[where] = 0;
            }
            int worlds = 0;
            for (int where = 0; where < CELLS; where++) {
                if (yard.isFreeGrass(where) && agrees(yard, finds, where)) {
                    worlds++;
                    seeBehind(yard, where, n);
                }
            }
            bestCell = NONE;
            for (int where = 0; where < CELLS; where++) {
                int left = Math.max(seen[where], worlds - seen[where]);
                if (bestCell == NONE || left < bestNumber) {
                    bestCell = where;
                    bestNumber = left;
                }
            }
            return worlds > 0;
        }

        private void seeBehind(Yard yard, int newest, int n) {
            begin(yard);
            sheet.add(0, newest, 0);
            for (int year = 0; year < n; year++) {
                sheet.turnYear();
            }
            for (int where = 0; where < CELLS; where++) {
                seen[where] += sheet.plotIn(where) == NONE ? 0 : 1;
            }
        }

        int movedBy(Yard yard, Text law, int n) {
            begin(yard);
            sheet.law = law;
            int sum = 0;
            for (int year = 0; year < n; year++) {
                sheet.turnYear();
                sum += sheet.moved;
            }
            return sum;
        }

        long chanceOf(Yard yard, int plot, int where, int n) {
            begin(yard);
            int needed = yearIn(plot, where, n);
            if (needed == NONE || needed > ARRIVE_YEARS) {
                return 0;
            }
            if (needed == 0) {
                return WHOLE;
            }
            int frost = yard.term[FROST];
            // By how many years were not lost: a lost one changes nothing that a LAW could ask.
            for (int years = 0; years <= ARRIVE_YEARS; years++) {
                chance[years] = 0;
            }
            chance[0] = WHOLE;
            for (int year = 0; year < n; year++) {
                // Those who have arrived stay so; the others from the latest on, lest one year count twice.
                for (int years = needed - 1; years >= 0; years--) {
                    chance[years + 1] += chance[years] * (10 - frost) / 10;
                    chance[years] = chance[years] * frost / 10;
                }
            }
            return chance[needed];
        }

        int yearsRound(Yard yard, int plot) {
            begin(yard);
            int sum = 0;
            for (int year = 1; year <= ROUND_YEARS; year++) {
                int was = sheet.cell[plot];
                sheet.turnYear();
                // Nobody moves as many as 32 in one year.
                sum += Math.floorMod(sheet.cell[plot] - was, CELLS);
                if (sum >= CELLS) {
                    return year;
                }
            }
            return NONE;
        }
    }

    /** Packs DIGS into days. */
    private static final class Packer {
        private final int[] digs = new int[PLOTS];
        private final int[] load = new int[PLOTS];
        private final int[] day = new int[PLOTS];
        private int plots;
        private int light;

        /** NONE if one DIGS longer than a day is light; the days by PLOTS stand in their row then. */
        int fewestDays(Yard yard) {
            plots = Math.min(yard.plots, PLOTS);
            light = yard.term[LIGHT];
            for (int plot = 0; plot < plots; plot++) {
                digs[plot] = yard.digsOf(plot);
                if (digs[plot] > light) {
                    return NONE;
                }
            }
            for (int days = 0; days <= plots; days++) {
                for (int i = 0; i < PLOTS; i++) {
                    load[i] = 0;
                }
                if (fits(0, days)) {
                    return days;
                }
            }
            return NONE;
        }

        // Days are tried from the lowest on, so that the first row found is the first of all.
        private boolean fits(int plot, int days) {
            if (plot < 0 || plot >= plots || plot >= PLOTS) {
                return true;
            }
            for (int i = 0; i < days && i < PLOTS; i++) {
                boolean isEmpty = load[i] == 0;
                if (load[i] + digs[plot] <= light) {
                    load[i] += digs[plot];
                    day[plot] = i;
                    if (fits(plot + 1, days)) {
                        return true;
                    }
                    load[i] -= digs[plot];
                }
                // One empty day is as good as the next.
                if (isEmpty) {
                    return false;
                }
            }
            return false;
        }
    }

    /** CENTURIES by draws; its sheet keeps the latest. */
    private static final class Draws {
        private final Yard sheet = new Yard();
        private long state;

        int run(Yard yard, int seed, int n) {
            sheet.copyFrom(yard);
            sheet.law = yard.law;
            state = seed;
            for (int year = 0; year < n && sheet.term[YEAR] < LAST_YEAR; year++) {
                if (draw(10) < sheet.term[FROST]) {
                    sheet.age();
                } else {
                    sheet.turnYear();
                }
                int where = draw(CELLS);
                int family = draw(FAMILIES);
                if (sheet.isOpenTo(family, where)) {
                    // Without room it adds nothing.
                    sheet.add(family, where, 0);
                }
            }
            return sheet.plots;
        }

        private int draw(int m) {
            state = (state * 1103 + 12345) % 1000003;
            return m > 0 ? (int) (state % m) : 0;
        }
    }
}
