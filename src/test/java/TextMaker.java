import java.util.ArrayList;
import java.util.List;
import java.util.Random;

/** Makes TEXTS of both languages, most of them whole, some with something wrong in them. */
final class TextMaker {
    private final Random random;
    private final boolean orders;
    private final List<String> tokens = new ArrayList<>();
    private int depth;

    private TextMaker(Random random, boolean orders) {
        this.random = random;
        this.orders = orders;
    }

    static byte[] make(Random random, boolean orders) {
        TextMaker maker = new TextMaker(random, orders);
        int clauses = random.nextInt(8) == 0 ? 11 + random.nextInt(4) : 1 + random.nextInt(5);
        for (int i = 0; i < clauses; i++) {
            if (i > 0) {
                maker.tokens.add(";");
            }
            if (orders) {
                maker.order();
            } else {
                maker.lawClause();
            }
        }
        if (random.nextInt(4) == 0) {
            maker.spoil();
        }
        return maker.text();
    }

    private boolean chance(int oneOf) {
        return random.nextInt(oneOf) == 0;
    }

    private String pick(String... some) {
        return some[random.nextInt(some.length)];
    }

    private void add(String... some) {
        tokens.addAll(List.of(some));
    }

    private void lawClause() {
        String verb = pick("moves", "digs", "goes", "bars", "moves", "goes");
        add(verb);
        if (verb.equals("moves") || verb.equals("digs")) {
            sum();
        }
        if (!chance(3) || verb.equals("bars")) {
            add("if");
            test();
        }
    }

    private void order() {
        String verb = pick("bury", "buy", "raise", "pass", "bury", "pass", "bury");
        add(verb);
        if (verb.equals("bury")) {
            cell(6);
            add("at");
            cell(32);
        } else if (verb.equals("buy")) {
            cell(32);
        } else if (verb.equals("raise")) {
            cell(3);
        }
        if (chance(3)) {
            add("times", String.valueOf(chance(9) ? random.nextInt(24) : 1 + random.nextInt(5)));
        }
        if (chance(2)) {
            add("if");
            test();
        }
    }

    private void cell(int below) {
        if (chance(4)) {
            sum();
        } else {
            add(String.valueOf(random.nextInt(below)));
            if (chance(2)) {
                add("+", pick("done", "plots"));
            }
        }
    }

    private void test() {
        plain();
        while (chance(3)) {
            add(pick("or", "and"));
            plain();
        }
    }

    private void plain() {
        while (chance(5)) {
            add("not");
        }
        if (depth < 9 && chance(5)) {
            depth++;
            add("(");
            test();
            add(")");
            depth--;
            return;
        }
        sum();
        add(pick("<", ">", "="));
        sum();
    }

    private void sum() {
        part();
        while (chance(3)) {
            add(pick("+", "-", "*", "/", "%"));
            part();
        }
    }

    private void part() {
        if (depth < 9 && chance(7)) {
            depth++;
            add("[");
            sum();
            add("]");
            depth--;
        } else if (chance(2)) {
            add(String.valueOf(chance(6) ? random.nextInt(1010) : random.nextInt(12)));
        } else if (orders) {
            word();
        } else {
            add(pick(Grammar.LAW_WORDS));
        }
    }

    private void word() {
        String word = pick("year", "plots", "done", "moved", "at", "kind", "bought");
        add(word);
        if (word.equals("at")) {
            add(String.valueOf(random.nextInt(chance(20) ? 12 : 10)));
        } else if (word.equals("kind") || word.equals("bought")) {
            add(String.valueOf(random.nextInt(chance(20) ? 35 : 32)));
        }
    }

    private void spoil() {
        int at = random.nextInt(tokens.size());
        String other = pick("if", "or", "and", "not", "(", ")", "[", "]", ";", "+", "<", "=", "1000", "1001", "0007", "at",
            "times", "moves", "pass", "years", "zz", "A", "\u00e9", "99999999999999999999", "goes", "kind", "\t", "year");
        switch (random.nextInt(3)) {
            case 0:
                tokens.remove(at);
                break;
            case 1:
                tokens.set(at, other);
                break;
            default:
                tokens.add(at, other);
                break;
        }
    }

    private byte[] text() {
        StringBuilder b = new StringBuilder();
        String blank = chance(2) ? " " : "";
        for (String token : tokens) {
            boolean joins = b.length() > 0 && !token.isEmpty() && sort(b.charAt(b.length() - 1)) == sort(token.charAt(0))
                && sort(token.charAt(0)) != 0;
            b.append(joins || chance(9) ? " " : blank).append(token);
        }
        if (chance(6)) {
            b.append("  ");
        }
        if (b.length() > 400) {
            b.setLength(400);
        }
        byte[] bytes = new byte[b.length()];
        for (int i = 0; i < bytes.length; i++) {
            bytes[i] = (byte) b.charAt(i);
        }
        return bytes;
    }

    private static int sort(char c) {
        return c >= 'a' && c <= 'z' ? 1 : c >= '0' && c <= '9' ? 2 : 0;
    }
}
