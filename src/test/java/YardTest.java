import java.nio.ByteBuffer;
import java.util.ArrayList;
import java.util.Arrays;
import java.util.List;
import java.util.function.Consumer;

/** What the tests of the promises share: the count of what was asked, and tapes, laws, yards made by one call. */
abstract class YardTest {
    private static int wrong;
    private static int asked;
    private static String told = "";

    static void promise(int number) {
        told = "promise " + number;
    }

    /** What one sentence says at its edges, asked of a yard of its own. */
    static void edge(int promise, String sentence, Consumer<YardYear> test) {
        told = "promise " + promise + ", <" + sentence + ">";
        test.accept(new YardYear());
    }

    static void is(String what, long got, long want) {
        asked++;
        if (got != want) {
            wrong++;
            System.out.println(told + ": " + what + " answered " + got + ", due is " + want);
        }
    }

    static void report(String test) {
        System.out.println(test + ": " + asked + " asked, " + wrong + " wrong");
        if (wrong > 0) {
            System.exit(1);
        }
    }

    static void tape(YardYear y, byte[] bytes) {
        y.end(0);
        for (int i = 0; i < bytes.length; i += 20) {
            ByteBuffer b = ByteBuffer.wrap(Arrays.copyOfRange(bytes, i, i + 20));
            y.feed(b.getInt(), b.getInt(), b.getInt(), b.getInt(), b.getInt());
        }
        y.end(bytes.length);
    }

    static void tape(YardYear y, String text) {
        byte[] bytes = new byte[text.length()];
        for (int i = 0; i < bytes.length; i++) {
            bytes[i] = (byte) text.charAt(i);
        }
        tape(y, bytes);
    }

    static void tape(YardYear y, int... bytes) {
        byte[] made = new byte[bytes.length];
        for (int i = 0; i < made.length; i++) {
            made[i] = (byte) bytes[i];
        }
        tape(y, made);
    }

    static int law(YardYear y, String text) {
        tape(y, text);
        return y.law();
    }

    static int orders(YardYear y, String text) {
        tape(y, text);
        return y.orders();
    }

    /** A new yard under one LAW. */
    static YardYear under(String law) {
        YardYear y = new YardYear();
        y.force(law(y, law));
        return y;
    }

    static YardYear walled(int... cells) {
        YardYear y = new YardYear();
        for (int cell : cells) {
            y.put(cell, 0, 1);
        }
        return y;
    }

    /** Numbers that are not from the least to the most. */
    static int[] beyond(int least, int most) {
        return new int[] {least - 1, most + 1, Integer.MIN_VALUE, Integer.MAX_VALUE};
    }

    /** Buries family 0, not small, in each of the cells. */
    static void lay(YardYear y, int... cells) {
        for (int cell : cells) {
            y.bury(0, cell, 0);
        }
    }

    /** Ten plots, in the cells 0, 3, 6 .. 27. */
    static void fill(YardYear y) {
        for (int i = 0; i < 10; i++) {
            y.bury(i % 6, 3 * i, 0);
        }
    }

    /** As many years, by few calls. */
    static void years(YardYear y, int n) {
        for (int left = n; left > 0; left -= 240) {
            int whole = Math.min(left, 240) / 20;
            int more = Math.min(left, 240) % 20;
            String text = "pass times 20;".repeat(whole) + (more > 0 ? "pass times " + more + ";" : "");
            orders(y, text.substring(0, text.length() - 1));
        }
    }

    /** All but some cells become paths. */
    static void pave(YardYear y, int... grass) {
        for (int cell = 0; cell < 32; cell++) {
            int one = cell;
            if (Arrays.stream(grass).noneMatch(g -> g == one)) {
                y.put(cell, 0, 2);
            }
        }
    }

    /** All that stands, to see that a call has left it. */
    static List<Integer> standing(YardYear y) {
        List<Integer> all = new ArrayList<>();
        for (int cell = 0; cell < 32; cell++) {
            for (int what = 0; what < 4; what++) {
                all.add(y.at(cell, what));
            }
        }
        for (int plot = 0; plot < y.count(0); plot++) {
            for (int what = 0; what < 4; what++) {
                all.add(y.of(plot, what));
            }
        }
        for (int what : new int[] {0, 1, 2, 3, 4, 5, 12, 13, 14, 15, 16}) {
            all.add(y.count(what));
        }
        return all;
    }

    static void isLeft(String what, YardYear y, List<Integer> ahead) {
        is(what + ": all as ahead", standing(y).equals(ahead) ? 1 : 0, 1);
    }
}
