import java.lang.reflect.Method;
import java.lang.reflect.Modifier;
import java.util.ArrayList;
import java.util.Arrays;
import java.util.List;
import java.util.Random;

/** Holds YardYear against the Model over random runs of calls; the seeds are fixed. */
public final class FuzzTest {
    private final Random random;
    private final YardYear real = new YardYear();
    private final Model model = new Model();
    private final List<String> told = new ArrayList<>();
    private int calls;

    private FuzzTest(long seed) {
        random = new Random(seed);
    }

    public static void main(String[] args) throws Exception {
        long first = args.length > 0 ? Long.parseLong(args[0]) : 1;
        long count = args.length > 1 ? Long.parseLong(args[1]) : 400;
        for (long seed = first; seed < first + count; seed++) {
            if (!new FuzzTest(seed).run()) {
                System.out.println("FuzzTest: seed " + seed);
                System.exit(1);
            }
        }
        System.out.println("FuzzTest: " + count + " runs, all as in the model");
    }

    private boolean run() throws Exception {
        List<Method> asked = new ArrayList<>();
        for (Method m : YardYear.class.getDeclaredMethods()) {
            if (Modifier.isPublic(m.getModifiers())) {
                asked.add(m);
            }
        }
        asked.sort((a, b) -> a.getName().compareTo(b.getName()));
        // How much stands wrong in the arguments, and how much the world is changed between questions.
        int wild = 5 + random.nextInt(60);
        if (!begin()) {
            return false;
        }
        while (calls < 500) {
            int what = random.nextInt(20);
            boolean fine;
            if (what == 0) {
                fine = text(false);
            } else if (what < 3) {
                fine = text(true);
            } else if (what == 3 && random.nextInt(4) == 0) {
                fine = rowOf();
            } else if (what < 8) {
                fine = act();
            } else {
                Method m = asked.get(random.nextInt(asked.size()));
                fine = call(m.getName(), arguments(m, random.nextInt(wild) == 0));
            }
            if (!fine) {
                return false;
            }
        }
        return true;
    }

    private boolean begin() throws Exception {
        boolean fine = random.nextBoolean() || rowOf();
        fine = fine && call("terms", 2, random.nextInt(11)) && call("terms", 1, 4 + random.nextInt(30));
        if (random.nextInt(4) == 0) {
            fine = fine && call("terms", 0, 960 + random.nextInt(40));
        }
        for (int i = random.nextInt(12); i > 0 && fine; i--) {
            fine = call("bury", random.nextInt(6), random.nextInt(32), random.nextInt(2));
        }
        for (int i = random.nextInt(3); i > 0 && fine; i--) {
            fine = text(false) && call("force", 0);
        }
        return fine;
    }

    private boolean act() throws Exception {
        switch (random.nextInt(11)) {
            case 0:
            case 1:
                return call("pass");
            case 2:
            case 3:
                return call("bury", random.nextInt(6), random.nextInt(32), random.nextInt(2));
            case 4:
                return call("force", random.nextInt(7) - 1);
            case 5:
                return call("put", random.nextInt(32), 0, random.nextInt(4));
            case 6:
                return call("put", random.nextInt(32), 1 + random.nextInt(2), random.nextInt(2));
            case 7:
                return call("find", random.nextInt(10), random.nextInt(32), random.nextInt(3) / 2);
            case 8:
                return call("buy", wall());
            case 9:
                return call("ways", plot(), near(), random.nextInt(31), random.nextInt(2));
            default:
                return call("forget");
        }
    }

    // A wall if there is one.
    private int wall() {
        int first = random.nextInt(32);
        for (int i = 0; i < 32; i++) {
            if (model.w.cells[(first + i) % 32].kind == 1) {
                return (first + i) % 32;
            }
        }
        return first;
    }

    private boolean text(boolean orders) throws Exception {
        return feed(TextMaker.make(random, orders)) && call(orders ? "orders" : "law") && call("fault") && call("stopped")
            && call("count", 0) && call("count", 5) && call("count", 13) && call("blocked");
    }

    private boolean rowOf() throws Exception {
        byte[] row = new byte[2 * random.nextInt(34) + random.nextInt(2)];
        int walls = random.nextInt(6);
        for (int i = 0; i < row.length; i += 2) {
            row[i] = (byte) (random.nextInt(6) < walls ? random.nextInt(random.nextInt(3) == 0 ? 5 : 2) : 0);
            if (i + 1 < row.length) {
                row[i + 1] = (byte) random.nextInt(random.nextInt(4) == 0 ? 256 : 20);
            }
        }
        return feed(row) && call("row") && call("moles");
    }

    private boolean feed(byte[] bytes) throws Exception {
        if (!call("end", 0)) {
            return false;
        }
        for (int i = 0; i < bytes.length; i += 20) {
            int[] five = new int[5];
            for (int j = 0; j < 20; j++) {
                int b = i + j < bytes.length ? bytes[i + j] & 255 : 0;
                five[j / 4] = five[j / 4] << 8 | b;
            }
            if (!call("feed", five)) {
                return false;
            }
        }
        return call("end", bytes.length);
    }

    private int[] arguments(Method m, boolean wild) {
        int[] made = new int[m.getParameterCount()];
        for (int i = 0; i < made.length; i++) {
            made[i] = wild && random.nextBoolean() ? wildNumber() : number(m.getName(), i);
        }
        return made;
    }

    private int wildNumber() {
        int[] some = {Integer.MIN_VALUE, Integer.MAX_VALUE, -1, -2, 0, 1, 32, 33, 10, 11, 101, 1000, 1000001, -100, 61, 31};
        return random.nextInt(4) == 0 ? random.nextInt() : some[random.nextInt(some.length)];
    }

    private int plot() {
        return random.nextInt(Math.max(1, model.w.plots.size()) + (random.nextInt(8) == 0 ? 1 : 0));
    }

    private int number(String name, int i) {
        int cell = random.nextInt(32);
        switch (name) {
            case "put":
                return i == 0 ? cell : i == 1 ? random.nextInt(3) : random.nextInt(4);
            case "at":
                return i == 0 ? cell : random.nextInt(5);
            case "of":
                return i == 0 ? plot() : random.nextInt(7);
            case "goes":
                return i == 0 ? plot() : cell;
            case "barred":
                return i == 0 ? random.nextInt(6) : cell;
            case "terms":
                return i == 0 ? random.nextInt(4) : random.nextInt(12);
            case "feed":
                return random.nextInt();
            case "end":
                return random.nextInt(40);
            case "force":
            case "compare":
                return i == 0 ? random.nextInt(7) - 1 : random.nextInt(62);
            case "bury":
                return i == 0 ? random.nextInt(6) : i == 1 ? cell : random.nextInt(2);
            case "buy":
                return cell;
            case "where":
                return i == 0 ? plot() : random.nextInt(102);
            case "ways":
                return i == 0 ? plot() : i == 1 ? near() : i == 2 ? random.nextInt(32) : random.nextInt(2);
            case "arrives":
                return i == 0 ? plot() : i == 1 ? near() : random.nextInt(42);
            case "meets":
                return i == 0 ? random.nextInt(62) : random.nextInt(12) - 1;
            case "meet":
                return i == 0 ? plot() : i == 1 ? random.nextInt(6) : i == 2 ? random.nextInt(62) : random.nextInt(2);
            case "find":
                return i == 0 ? random.nextInt(10) : i == 1 ? cell : random.nextInt(2);
            case "hidden":
                return random.nextInt(8) - 1;
            case "spade":
                return i == 0 ? random.nextInt(22) : random.nextInt(2);
            case "packed":
                return plot() - random.nextInt(2);
            case "centuries":
                return i == 0 ? random.nextInt(1000001) : random.nextInt(102);
            case "drawn":
                return i == 0 ? random.nextInt(10) : random.nextInt(4);
            case "image":
            case "back":
                return random.nextInt(2);
            case "count":
                return random.nextInt(18);
            default:
                return plot();
        }
    }

    private int near() {
        if (model.w.plots.isEmpty()) {
            return random.nextInt(32);
        }
        return (model.w.plots.get(0).cell + random.nextInt(12)) % 32;
    }

    private boolean call(String name, int... arguments) throws Exception {
        Class<?>[] types = new Class<?>[arguments.length];
        Object[] boxed = new Object[arguments.length];
        for (int i = 0; i < arguments.length; i++) {
            types[i] = int.class;
            boxed[i] = arguments[i];
        }
        calls++;
        Object got = YardYear.class.getDeclaredMethod(name, types).invoke(real, boxed);
        Object want = Model.class.getDeclaredMethod(name, types).invoke(model, boxed);
        String call = name + Arrays.toString(arguments) + " -> " + got;
        told.add(call);
        if (got.equals(want) && real.status() == model.status()) {
            return true;
        }
        for (String line : told.subList(Math.max(0, told.size() - 60), told.size())) {
            System.out.println(line);
        }
        System.out.println("FuzzTest: " + call + ", due is " + want + ", status " + real.status() + "/" + model.status());
        return false;
    }
}
