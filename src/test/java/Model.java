import java.math.BigInteger;
import java.util.ArrayList;
import java.util.Arrays;
import java.util.HashMap;
import java.util.LinkedList;
import java.util.List;
import java.util.Map;

/**
 * The document once more, in the slowest and plainest form that Java has: trees, maps, exceptions, copies of all.
 * It shares no code with YardYear; the fuzz test holds one against the other.
 */
final class Model {
    static final class Broken extends Exception {
        private static final long serialVersionUID = 1L;
    }

    static final class Refused extends Exception {
        private static final long serialVersionUID = 1L;
        final int by;

        Refused(int by) {
            this.by = by;
        }
    }

    interface Words {
        long of(String word);
    }

    interface Num {
        long of(Words words) throws Broken;
    }

    interface Test {
        boolean of(Words words) throws Broken;
    }

    record Clause(String verb, Num first, Num second, int times, Test test) {
        boolean isSo(Words words) {
            try {
                return test == null || test.of(words);
            } catch (Broken b) {
                return false;
            }
        }
    }

    /** Makes trees of a TEXT that has no FAULT. */
    static final class Trees {
        final LinkedList<String> rest = new LinkedList<>();

        Trees(byte[] text) {
            for (Grammar.Token t : Grammar.tokens(text)) {
                rest.add(t.text());
            }
            rest.add("");
        }

        boolean take(String s) {
            if (rest.getFirst().equals(s)) {
                rest.removeFirst();
                return true;
            }
            return false;
        }

        List<Clause> text() {
            List<Clause> clauses = new ArrayList<>();
            do {
                String verb = rest.removeFirst();
                Num first = null;
                Num second = null;
                int times = 1;
                if (List.of("moves", "digs", "bury", "buy", "raise").contains(verb)) {
                    first = sum();
                }
                if (verb.equals("bury")) {
                    take("at");
                    second = sum();
                }
                if (take("times")) {
                    times = Integer.parseInt(rest.removeFirst());
                }
                clauses.add(new Clause(verb, first, second, times, take("if") ? test() : null));
            } while (take(";"));
            return clauses;
        }

        Test test() {
            Test left = both();
            if (!take("or")) {
                return left;
            }
            Test right = test();
            return w -> left.of(w) || right.of(w);
        }

        Test both() {
            Test left = plain();
            if (!take("and")) {
                return left;
            }
            Test right = both();
            return w -> left.of(w) && right.of(w);
        }

        Test plain() {
            if (take("not")) {
                Test inner = plain();
                return w -> !inner.of(w);
            }
            if (take("(")) {
                Test inner = test();
                take(")");
                return inner;
            }
            Num left = sum();
            String sign = rest.removeFirst();
            Num right = sum();
            return w -> {
                int c = Long.compare(left.of(w), right.of(w));
                return sign.equals("<") ? c < 0 : sign.equals(">") ? c > 0 : c == 0;
            };
        }

        Num sum() {
            Num made = term();
            while (rest.getFirst().equals("+") || rest.getFirst().equals("-")) {
                made = two(made, rest.removeFirst(), term());
            }
            return made;
        }

        Num term() {
            Num made = part();
            while (List.of("*", "/", "%").contains(rest.getFirst())) {
                made = two(made, rest.removeFirst(), part());
            }
            return made;
        }

        Num part() {
            if (take("[")) {
                Num inner = sum();
                take("]");
                return inner;
            }
            String s = rest.removeFirst();
            if (Character.isDigit(s.charAt(0))) {
                long n = Long.parseLong(s);
                return w -> n;
            }
            String behind = rest.getFirst();
            // A word of a LAW has no number behind it, as no NUMBER can follow there.
            boolean hasNumber = !behind.isEmpty() && Character.isDigit(behind.charAt(0));
            String word = hasNumber ? s + " " + Integer.parseInt(rest.removeFirst()) : s;
            return w -> w.of(word);
        }

        static Num two(Num left, String sign, Num right) {
            return w -> {
                BigInteger a = BigInteger.valueOf(left.of(w));
                BigInteger b = BigInteger.valueOf(right.of(w));
                BigInteger r;
                switch (sign) {
                    case "+":
                        r = a.add(b);
                        break;
                    case "-":
                        r = a.subtract(b);
                        break;
                    case "*":
                        r = a.multiply(b);
                        break;
                    default:
                        if (b.signum() == 0) {
                            throw new Broken();
                        }
                        r = sign.equals("/") ? a.divide(b) : a.remainder(b);
                        break;
                }
                if (r.abs().compareTo(BigInteger.valueOf(1_000_000_000)) > 0) {
                    throw new Broken();
                }
                return r.longValueExact();
            };
        }
    }

    static final class Cell {
        int kind;
        int price;
        boolean bought;
    }

    static final class Plot {
        int cell;
        int family;
        int small;
        int years;
    }

    /** All that an IMAGE keeps. */
    static final class World {
        Cell[] cells = new Cell[32];
        List<Plot> plots = new ArrayList<>();
        int[] terms = {0, 20, 2, 0};
        List<int[]> found = new ArrayList<>();
        List<List<Clause>> laws = new ArrayList<>();
        int force = -1;
        int moved;
        int blocked;

        World() {
            for (int i = 0; i < 32; i++) {
                cells[i] = new Cell();
            }
        }

        World copy() {
            World w = new World();
            for (int i = 0; i < 32; i++) {
                w.cells[i].kind = cells[i].kind;
                w.cells[i].price = cells[i].price;
                w.cells[i].bought = cells[i].bought;
            }
            for (Plot p : plots) {
                Plot q = w.add(p.family, p.cell, p.small);
                q.years = p.years;
            }
            w.terms = terms.clone();
            for (int[] f : found) {
                w.found.add(f.clone());
            }
            w.laws.addAll(laws);
            w.force = force;
            return w;
        }

        Plot add(int family, int cell, int small) {
            Plot p = new Plot();
            p.family = family;
            p.cell = cell;
            p.small = small;
            plots.add(p);
            return p;
        }

        int plotAt(int cell) {
            for (int i = 0; i < plots.size(); i++) {
                if (plots.get(i).cell == cell) {
                    return i;
                }
            }
            return -1;
        }

        List<Clause> clauses(String verb) {
            List<Clause> some = new ArrayList<>();
            if (force >= 0) {
                for (Clause c : laws.get(force)) {
                    if (c.verb().equals(verb)) {
                        some.add(c);
                    }
                }
            }
            return some;
        }

        Words words(int plot, int family, int cell) {
            Map<String, Integer> m = new HashMap<>();
            m.put("plot", plot);
            m.put("cell", cell);
            m.put("kind", cells[cell].kind);
            m.put("price", cells[cell].price);
            m.put("bought", cells[cell].bought ? 1 : 0);
            m.put("family", family);
            m.put("small", plot < 0 ? -1 : plots.get(plot).small);
            m.put("years", plot < 0 ? 0 : plots.get(plot).years);
            m.put("year", terms[0]);
            m.put("mood", terms[3]);
            return w -> m.get(w);
        }

        Words words(int plot, int cell) {
            return words(plot, plots.get(plot).family, cell);
        }

        Integer lastThatHolds(String verb, int plot) {
            Integer told = null;
            Words words = words(plot, plots.get(plot).cell);
            for (Clause c : clauses(verb)) {
                if (c.isSo(words)) {
                    try {
                        told = (int) c.first().of(words);
                    } catch (Broken b) {
                        continue;
                    }
                }
            }
            return told;
        }

        int moves(int plot) {
            Integer told = lastThatHolds("moves", plot);
            return told == null ? 1 : told < 0 ? 0 : told > 9 ? 9 : told;
        }

        int digs(int plot) {
            Integer told = lastThatHolds("digs", plot);
            if (told == null) {
                return plots.get(plot).small == 1 ? 2 : 4;
            }
            return told < 1 ? 1 : told > 99 ? 99 : told;
        }

        boolean goes(int plot, int cell) {
            List<Clause> goes = clauses("goes");
            if (goes.isEmpty()) {
                Cell c = cells[cell];
                return c.kind == 0 || c.kind == 2 || c.kind == 1 && c.bought;
            }
            Words words = words(plot, cell);
            return goes.stream().anyMatch(c -> c.isSo(words));
        }

        boolean barred(int family, int cell) {
            Words words = words(-1, family, cell);
            return clauses("bars").stream().anyMatch(c -> c.isSo(words));
        }

        boolean free(int cell) {
            return cells[cell].kind == 0 && plotAt(cell) < 0;
        }

        void year() {
            moved = 0;
            blocked = 0;
            for (int i = 0; i < plots.size(); i++) {
                Plot p = plots.get(i);
                for (int left = moves(i); left > 0; left--) {
                    int to = p.cell == 31 ? 0 : p.cell + 1;
                    if (plotAt(to) >= 0 || !goes(i, to)) {
                        blocked++;
                        break;
                    }
                    p.cell = to;
                    moved++;
                }
            }
            older();
        }

        void older() {
            for (Plot p : plots) {
                p.years = p.years == 999 ? 999 : p.years + 1;
            }
            terms[0]++;
        }

        boolean beside(int a, int b) {
            int x = plots.get(a).cell;
            int y = plots.get(b).cell;
            return (x + 1) % 32 == y || (y + 1) % 32 == x;
        }

        World behind(int n) {
            World w = copy();
            for (int i = 0; i < n; i++) {
                w.year();
            }
            return w;
        }

        /** The worlds at the ends of the years 0 .. n. */
        List<World> ends(int n) {
            List<World> all = new ArrayList<>();
            all.add(copy());
            for (int i = 0; i < n; i++) {
                World w = all.get(i).copy();
                w.year();
                all.add(w);
            }
            return all;
        }
    }

    World w = new World();
    byte[] tape = {};
    int fault = -1;
    int moles;
    int blocked;
    int stopped = -1;
    LinkedList<World> undos = new LinkedList<>();
    LinkedList<Integer> undone = new LinkedList<>();
    World[] images = new World[2];
    World drawn = new World();
    int[] refusals = new int[7];
    int status;

    interface Act {
        int run() throws Refused;
    }

    int call(Act act) {
        try {
            int a = act.run();
            status = 0;
            return a;
        } catch (Refused r) {
            status = r.by;
            refusals[-r.by]++;
            return r.by;
        }
    }

    static void require(boolean ok, int by) throws Refused {
        if (!ok) {
            throw new Refused(by);
        }
    }

    static boolean in(int n, int least, int most) {
        return n >= least && n <= most;
    }

    boolean isPlot(int p) {
        return in(p, 0, w.plots.size() - 1);
    }

    void forgetUndos() {
        undos.clear();
        undone.clear();
    }

    void keepUndo(World before, int what) {
        undos.addLast(before);
        undone.addLast(what);
        if (undos.size() > 16) {
            undos.removeFirst();
            undone.removeFirst();
        }
    }

    boolean setCell(int c, int kind, int price) {
        if (!in(kind, 0, 3) || !in(price, 0, 99) || (kind == 1 || kind == 3) && w.plotAt(c) >= 0) {
            return false;
        }
        w.cells[c].kind = kind;
        w.cells[c].price = price;
        w.cells[c].bought &= kind == 1;
        return true;
    }

    int put(int cell, int what, int value) {
        return call(() -> {
            require(in(cell, 0, 31) && in(what, 0, 2) && in(value, 0, what == 0 ? 3 : what == 1 ? 99 : 1), -1);
            Cell c = w.cells[cell];
            int was = at(cell, what);
            require(!(what == 0 && (value == 1 || value == 3) && w.plotAt(cell) >= 0), -3);
            require(!(what == 2 && value == 1 && c.kind != 1), -3);
            forgetUndos();
            if (what == 0) {
                c.kind = value;
                c.bought = c.bought && value == 1;
            } else if (what == 1) {
                c.price = value;
            } else {
                c.bought = value == 1;
            }
            return was;
        });
    }

    int at(int cell, int what) {
        if (!in(cell, 0, 31) || !in(what, 0, 3)) {
            return -1;
        }
        Cell c = w.cells[cell];
        return new int[] {c.kind, c.price, c.bought ? 1 : 0, w.plotAt(cell)}[what];
    }

    int of(int plot, int what) {
        if (!isPlot(plot) || !in(what, 0, 5)) {
            return -1;
        }
        Plot p = w.plots.get(plot);
        return new int[] {p.cell, p.family, p.small, p.years, w.moves(plot), w.digs(plot)}[what];
    }

    int goes(int plot, int cell) {
        return !isPlot(plot) || !in(cell, 0, 31) ? -1 : w.goes(plot, cell) ? 1 : 0;
    }

    int barred(int family, int cell) {
        return !in(family, 0, 5) || !in(cell, 0, 31) ? -1 : w.barred(family, cell) ? 1 : 0;
    }

    int terms(int what, int value) {
        return call(() -> {
            int[] least = {0, 1, 0, 0};
            int[] most = {999, 99, 10, 9};
            require(in(what, 0, 3) && in(value, least[what], most[what]), -1);
            forgetUndos();
            int was = w.terms[what];
            w.terms[what] = value;
            return was;
        });
    }

    int feed(int a, int b, int c, int d, int e) {
        if (tape.length > 380) {
            return -1;
        }
        byte[] more = Arrays.copyOf(tape, tape.length + 20);
        System.arraycopy(java.nio.ByteBuffer.allocate(20).putInt(a).putInt(b).putInt(c).putInt(d).putInt(e).array(), 0,
            more, tape.length, 20);
        tape = more;
        return tape.length;
    }

    int end(int n) {
        if (!in(n, 0, tape.length)) {
            return -1;
        }
        tape = Arrays.copyOf(tape, n);
        return n;
    }

    byte[] takeTape() {
        byte[] was = tape;
        tape = new byte[0];
        return was;
    }

    int row() {
        return call(() -> {
            byte[] t = takeTape();
            require(t.length > 0, -6);
            forgetUndos();
            int told = 0;
            moles = 0;
            for (int c = 0; 2 * c < t.length; c++) {
                if (c < 32 && 2 * c + 1 < t.length && setCell(c, t[2 * c] & 255, t[2 * c + 1] & 255)) {
                    told++;
                } else {
                    moles++;
                }
            }
            return told;
        });
    }

    int moles() {
        return moles;
    }

    int law() {
        return call(() -> {
            byte[] t = takeTape();
            require(w.laws.size() < 6, -5);
            fault = Grammar.fault(t, false);
            require(fault < 0, -6);
            w.laws.add(new Trees(t).text());
            return w.laws.size() - 1;
        });
    }

    int orders() {
        return call(() -> {
            byte[] t = takeTape();
            stopped = -1;
            fault = Grammar.fault(t, true);
            require(fault < 0, -6);
            World was = w.copy();
            LinkedList<World> undosWere = new LinkedList<>(undos);
            LinkedList<Integer> undoneWere = new LinkedList<>(undone);
            int blockedWas = blocked;
            List<Clause> text = new Trees(t).text();
            int[] latest = {0, -1};
            for (int i = 0; i < text.size(); i++) {
                try {
                    for (int k = 0; k < text.get(i).times(); k++) {
                        order(text.get(i), latest);
                    }
                } catch (Refused | Broken e) {
                    w = was;
                    undos = undosWere;
                    undone = undoneWere;
                    blocked = blockedWas;
                    stopped = i;
                    throw new Refused(e instanceof Refused r && r.by == -5 ? -5 : -3);
                }
            }
            return latest[0];
        });
    }

    void order(Clause c, int[] latest) throws Refused, Broken {
        Words words = word -> {
            String[] s = word.split(" ");
            int n = s.length > 1 ? Integer.parseInt(s[1]) : 0;
            switch (s[0]) {
                case "year":
                    return w.terms[0];
                case "plots":
                    return w.plots.size();
                case "done":
                    return latest[0];
                case "moved":
                    return latest[1];
                case "at":
                    return n < w.plots.size() ? w.plots.get(n).cell : -1;
                case "kind":
                    return w.cells[n].kind;
                default:
                    return w.cells[n].bought ? 1 : 0;
            }
        };
        if (!c.isSo(words)) {
            return;
        }
        int a = c.first() == null ? 0 : (int) c.first().of(words);
        int b = c.second() == null ? 0 : (int) c.second().of(words);
        switch (c.verb()) {
            case "bury":
                doBury(a, b, 0);
                break;
            case "buy":
                doBuy(a);
                break;
            case "raise":
                doRaise(a);
                break;
            default:
                latest[1] = doPass();
                break;
        }
        latest[0]++;
    }

    int doBury(int family, int cell, int small) throws Refused {
        require(in(family, 0, 5) && in(cell, 0, 31) && in(small, 0, 1), -1);
        require(w.free(cell) && !w.barred(family, cell), -3);
        require(w.plots.size() < 10, -5);
        keepUndo(w.copy(), 0);
        w.add(family, cell, small);
        return w.plots.size() - 1;
    }

    int doBuy(int cell) throws Refused {
        require(in(cell, 0, 31), -1);
        require(w.cells[cell].kind == 1 && !w.cells[cell].bought, -3);
        keepUndo(w.copy(), 1);
        w.cells[cell].bought = true;
        return w.cells[cell].price;
    }

    int doRaise(int plot) throws Refused {
        require(isPlot(plot), -2);
        keepUndo(w.copy(), 2);
        return w.plots.remove(plot).cell;
    }

    int doPass() throws Refused {
        require(w.terms[0] < 999, -3);
        keepUndo(w.copy(), 3);
        w.year();
        blocked = w.blocked;
        return w.moved;
    }

    int fault() {
        return fault;
    }

    int stopped() {
        return stopped;
    }

    int force(int law) {
        return call(() -> {
            require(in(law, -1, w.laws.size() - 1), -2);
            int was = w.force;
            w.force = law;
            return was;
        });
    }

    int bury(int family, int cell, int small) {
        return call(() -> doBury(family, cell, small));
    }

    int buy(int cell) {
        return call(() -> doBuy(cell));
    }

    int raise(int plot) {
        return call(() -> doRaise(plot));
    }

    int pass() {
        return call(() -> doPass());
    }

    int blocked() {
        return blocked;
    }

    int undo() {
        return call(() -> {
            require(!undos.isEmpty(), -3);
            World was = undos.removeLast();
            w.plots = was.plots;
            w.cells = was.cells;
            w.terms = was.terms;
            return undone.removeLast();
        });
    }

    int where(int plot, int n) {
        return !isPlot(plot) || !in(n, 0, 100) ? -1 : w.behind(n).plots.get(plot).cell;
    }

    int indoors() {
        List<World> ends = w.ends(200);
        for (int y = 0; y <= 200; y++) {
            World e = ends.get(y);
            if (e.plots.stream().anyMatch(p -> e.cells[p.cell].kind == 1)) {
                return y;
            }
        }
        return -1;
    }

    long ways(int plot, int cell, int n, int what) {
        if (!isPlot(plot) || !in(cell, 0, 31) || !in(n, 0, 30) || !in(what, 0, 1)) {
            return -1;
        }
        List<Integer> walls = new ArrayList<>();
        for (int c = 0; c < 32; c++) {
            if (w.cells[c].kind == 1 && !w.cells[c].bought) {
                walls.add(c);
            }
        }
        if (walls.size() > 8) {
            return -1;
        }
        long[] best = null;
        for (int set = (1 << walls.size()) - 1; set >= 0; set--) {
            World v = w.copy();
            long price = 0;
            long bits = 0;
            for (int i = 0; i < walls.size(); i++) {
                if ((set & 1 << i) != 0) {
                    v.cells[walls.get(i)].bought = true;
                    price += v.cells[walls.get(i)].price;
                    bits += 1L << walls.get(i);
                }
            }
            boolean better = best == null || price < best[0] || price == best[0] && bits < best[1];
            if (better && firstIn(v, plot, cell, n) >= 0) {
                best = new long[] {price, bits};
            }
        }
        return best == null ? -1 : best[what];
    }

    static int firstIn(World v, int plot, int cell, int n) {
        World u = v.copy();
        for (int y = 0; y <= n; y++) {
            if (u.plots.get(plot).cell == cell) {
                return y;
            }
            u.year();
        }
        return -1;
    }

    int packed(int plot) {
        int count = w.plots.size();
        if (!in(plot, -1, count - 1)) {
            return -1;
        }
        int[] digs = new int[count];
        for (int i = 0; i < count; i++) {
            digs[i] = w.digs(i);
            if (digs[i] > w.terms[1]) {
                return -1;
            }
        }
        int[][] best = new int[1][];
        int[] most = {99};
        pack(digs, new int[count], 0, 0, most, best);
        return plot < 0 ? most[0] : best[0][plot];
    }

    /** Goes through all rows of days in their order; only a row with fewer days comes in place of one. */
    void pack(int[] digs, int[] row, int i, int days, int[] most, int[][] best) {
        if (i == digs.length) {
            if (days < most[0]) {
                most[0] = days;
                best[0] = row.clone();
            }
            return;
        }
        for (int d = 0; d <= days; d++) {
            row[i] = d;
            int load = 0;
            for (int j = 0; j <= i; j++) {
                load += row[j] == d ? digs[j] : 0;
            }
            if (load <= w.terms[1]) {
                pack(digs, row, i + 1, Math.max(days, d + 1), most, best);
            }
        }
    }

    int meets(int n, int i) {
        if (!in(n, 0, 60) || i < -1) {
            return -1;
        }
        List<World> ends = w.ends(n);
        List<Integer> all = new ArrayList<>();
        for (int y = 1; y <= n; y++) {
            for (int code = 0; code < 100; code++) {
                int lower = code / 10;
                int higher = code % 10;
                if (lower < higher && higher < w.plots.size() && ends.get(y).beside(lower, higher)
                        && !ends.get(y - 1).beside(lower, higher)) {
                    all.add(100 * y + code);
                }
            }
        }
        return i < 0 ? all.size() : i < all.size() ? all.get(i) : -1;
    }

    int meet(int plot, int family, int n, int what) {
        if (!isPlot(plot) || !in(family, 0, 5) || !in(n, 0, 60) || !in(what, 0, 1) || w.plots.size() == 10) {
            return -1;
        }
        int best = -1;
        for (int c = 31; c >= 0; c--) {
            if (w.free(c) && !w.barred(family, c)) {
                World v = w.copy();
                v.add(family, c, 0);
                List<World> ends = v.ends(n);
                for (int y = 0; y <= n; y++) {
                    if (ends.get(y).beside(plot, w.plots.size())) {
                        best = best < 0 ? 100 * y + c : Math.min(best, 100 * y + c);
                        break;
                    }
                }
            }
        }
        return best < 0 ? -1 : what == 0 ? best % 100 : best / 100;
    }

    int find(int k, int cell, int is) {
        return call(() -> {
            require(in(k, 0, 9) && in(cell, 0, 31) && in(is, 0, 1), -1);
            require(w.found.size() < 8, -5);
            w.found.add(new int[] {k, cell, is});
            return w.found.size();
        });
    }

    int forget() {
        int was = w.found.size();
        w.found.clear();
        return was;
    }

    List<Integer> hiddenCells() {
        List<Integer> all = new ArrayList<>();
        for (int c = 0; c < 32; c++) {
            if (w.free(c)) {
                World v = w.copy();
                v.add(0, c, 0);
                List<World> ends = v.ends(9);
                if (w.found.stream().allMatch(f -> (ends.get(f[0]).plotAt(f[1]) >= 0 ? 1 : 0) == f[2])) {
                    all.add(c);
                }
            }
        }
        return all;
    }

    int hidden(int i) {
        if (w.plots.size() == 10) {
            return -1;
        }
        List<Integer> all = hiddenCells();
        return i == -1 ? all.size() : in(i, 0, all.size() - 1) ? all.get(i) : -1;
    }

    int spade(int n, int what) {
        if (w.plots.size() == 10 || !in(n, 0, 20) || !in(what, 0, 1)) {
            return -1;
        }
        List<Integer> all = hiddenCells();
        if (all.isEmpty()) {
            return -1;
        }
        List<World> then = new ArrayList<>();
        for (int c : all) {
            World v = w.copy();
            v.add(0, c, 0);
            then.add(v.behind(n));
        }
        int best = 100_000;
        for (int c = 0; c < 32; c++) {
            int cell = c;
            int with = (int) then.stream().filter(v -> v.plotAt(cell) >= 0).count();
            best = Math.min(best, Math.max(with, all.size() - with) * 100 + c);
        }
        return what == 0 ? best % 100 : best / 100;
    }

    int compare(int law, int n) {
        if (!in(law, -1, w.laws.size() - 1) || !in(n, 1, 60)) {
            return -1;
        }
        World v = w.copy();
        v.force = law;
        return v.ends(n).stream().skip(1).mapToInt(e -> e.moved).sum();
    }

    long arrives(int plot, int cell, int n) {
        if (!isPlot(plot) || !in(cell, 0, 31) || !in(n, 0, 40)) {
            return -1;
        }
        int needed = firstIn(w, plot, cell, n);
        if (needed < 0) {
            return 0;
        }
        // By years that came and years that were not lost; who has arrived is counted and goes no further.
        long[][] parts = new long[n + 1][n + 2];
        parts[0][0] = 1_000_000_000_000L;
        long arrived = needed == 0 ? parts[0][0] : 0;
        for (int y = 0; y < n && needed > 0; y++) {
            for (int k = 0; k < needed; k++) {
                long lost = parts[y][k] * w.terms[2] / 10;
                long passed = parts[y][k] * (10 - w.terms[2]) / 10;
                parts[y + 1][k] += lost;
                if (k + 1 == needed) {
                    arrived += passed;
                } else {
                    parts[y + 1][k + 1] += passed;
                }
            }
        }
        return arrived;
    }

    int round(int plot) {
        if (!isPlot(plot)) {
            return -1;
        }
        World v = w.copy();
        int sum = 0;
        for (int y = 1; y <= 200; y++) {
            int was = v.plots.get(plot).cell;
            v.year();
            int is = v.plots.get(plot).cell;
            sum += is >= was ? is - was : is + 32 - was;
            if (sum >= 32) {
                return y;
            }
        }
        return -1;
    }

    int centuries(int seed, int n) {
        return call(() -> {
            require(in(seed, 0, 1_000_000) && in(n, 1, 100), -1);
            World v = w.copy();
            long[] s = {seed};
            for (int y = 0; y < n && v.terms[0] < 999; y++) {
                if (draw(s, 10) < v.terms[2]) {
                    v.older();
                } else {
                    v.year();
                }
                int cell = draw(s, 32);
                int family = draw(s, 6);
                if (v.plots.size() < 10 && v.free(cell) && !v.barred(family, cell)) {
                    v.add(family, cell, 0);
                }
            }
            drawn = v;
            return v.plots.size();
        });
    }

    static int draw(long[] s, int m) {
        s[0] = (s[0] * 1103 + 12345) % 1_000_003;
        return (int) (s[0] % m);
    }

    int drawn(int k, int what) {
        if (!in(k, 0, drawn.plots.size() - 1) || !in(what, 0, 2)) {
            return -1;
        }
        Plot p = drawn.plots.get(k);
        return what == 0 ? p.cell : what == 1 ? p.family : p.years;
    }

    int image(int k) {
        return call(() -> {
            require(in(k, 0, 1), -1);
            images[k] = w.copy();
            return 0;
        });
    }

    int back(int k) {
        return call(() -> {
            require(in(k, 0, 1), -1);
            require(images[k] != null, -2);
            w = images[k].copy();
            forgetUndos();
            return 0;
        });
    }

    int count(int what) {
        if (in(what, 7, 11)) {
            return refusals[new int[] {1, 2, 3, 5, 6}[what - 7]];
        }
        if (in(what, 13, 16)) {
            return w.terms[what - 13];
        }
        switch (what) {
            case 0:
                return w.plots.size();
            case 1:
                return (int) Arrays.stream(w.cells).filter(c -> c.kind == 1).count();
            case 2:
                return (int) Arrays.stream(w.cells).filter(c -> c.bought).count();
            case 3:
                return w.found.size();
            case 4:
                return w.laws.size();
            case 5:
                return undos.size();
            case 6:
                return tape.length;
            case 12:
                return w.force;
            default:
                return -1;
        }
    }

    int status() {
        return status;
    }
}
