import java.util.ArrayList;
import java.util.HashSet;
import java.util.List;
import java.util.Set;

/**
 * The grammars of both languages as they stand in the document, run as all ways to go on at once:
 * a second opinion on where a FAULT is, found without choosing a way by the next TOKEN.
 */
final class Grammar {
    record Token(int place, String text) {
        boolean isNumber() {
            return Character.isDigit(text.charAt(0)) && text.charAt(0) < 128;
        }

        long value() {
            return new java.math.BigInteger(text).min(java.math.BigInteger.valueOf(1_000_000)).longValue();
        }
    }

    /** What is still to come: a symbol and the rest. */
    record Rest(String symbol, Rest next) {
    }

    record Way(Rest rest, int clauses, int parts, int brackets) {
    }

    static final String[] LAW_WORDS =
        {"plot", "cell", "kind", "price", "bought", "family", "small", "years", "year", "mood"};

    static List<Token> tokens(byte[] text) {
        List<Token> found = new ArrayList<>();
        int i = 0;
        while (i < text.length) {
            if (text[i] == 32) {
                i++;
                continue;
            }
            int j = i + 1;
            if (text[i] >= 'a' && text[i] <= 'z') {
                while (j < text.length && text[j] >= 'a' && text[j] <= 'z') {
                    j++;
                }
            } else if (text[i] >= '0' && text[i] <= '9') {
                while (j < text.length && text[j] >= '0' && text[j] <= '9') {
                    j++;
                }
            }
            StringBuilder b = new StringBuilder();
            for (int k = i; k < j; k++) {
                b.append((char) (text[k] & 255));
            }
            found.add(new Token(i, b.toString()));
            i = j;
        }
        return found;
    }

    /** The FAULT, -1 without. */
    static int fault(byte[] text, boolean orders) {
        Set<Way> ways = new HashSet<>();
        ways.add(new Way(new Rest("TEXT", null), 0, 0, 0));
        for (Token token : tokens(text)) {
            Set<Way> next = new HashSet<>();
            for (Way way : ways) {
                goOn(way, token, orders, next);
            }
            if (next.isEmpty()) {
                return token.place();
            }
            ways = next;
        }
        Set<Way> ends = new HashSet<>();
        for (Way way : ways) {
            if (canEnd(way.rest())) {
                ends.add(way);
            }
        }
        return ends.isEmpty() ? text.length : -1;
    }

    private static boolean canEnd(Rest rest) {
        for (Rest r = rest; r != null; r = r.next()) {
            if (!r.symbol().endsWith("?") && !r.symbol().endsWith("*")) {
                return false;
            }
        }
        return true;
    }

    private static Rest put(Rest rest, String... symbols) {
        Rest made = rest;
        for (int i = symbols.length - 1; i >= 0; i--) {
            made = new Rest(symbols[i], made);
        }
        return made;
    }

    private static void goOn(Way way, Token token, boolean orders, Set<Way> into) {
        Rest rest = way.rest();
        if (rest == null) {
            return;
        }
        Rest next = rest.next();
        String s = rest.symbol();
        for (String[] choice : choices(s, orders)) {
            goOn(new Way(put(next, choice), way.clauses(), way.parts(), way.brackets()), token, orders, into);
        }
        if (choices(s, orders).length > 0) {
            return;
        }
        int clauses = way.clauses();
        int parts = way.parts();
        int brackets = way.brackets();
        boolean fits;
        if (s.equals("#CLAUSE")) {
            // Stands ahead of every CLAUSE: counts it.
            if (clauses < 12) {
                goOn(new Way(next, clauses + 1, parts, brackets), token, orders, into);
            }
            return;
        } else if (s.equals("#PART")) {
            if (parts < 50) {
                goOn(new Way(next, clauses, parts + 1, brackets), token, orders, into);
            }
            return;
        } else if (s.equals("#NUMBER")) {
            fits = token.isNumber() && token.value() <= 1000;
        } else if (s.equals("#TIMES")) {
            fits = token.isNumber() && token.value() >= 1 && token.value() <= 20;
        } else if (s.equals("#P")) {
            fits = token.isNumber() && token.value() <= 9;
        } else if (s.equals("#C")) {
            fits = token.isNumber() && token.value() <= 31;
        } else {
            fits = s.equals(token.text());
            if (fits && (s.equals("(") || s.equals("["))) {
                brackets++;
                fits = brackets <= 8;
            }
            if (fits && (s.equals(")") || s.equals("]"))) {
                brackets--;
            }
        }
        if (fits) {
            into.add(new Way(next, clauses, parts, brackets));
        }
    }

    private static final String[][] NO_CHOICE = {};

    private static String[][] choices(String s, boolean orders) {
        switch (s) {
            case "TEXT":
                return new String[][] {{"#CLAUSE", "CLAUSE", "CLAUSES*"}};
            case "CLAUSES*":
                return new String[][] {{}, {";", "#CLAUSE", "CLAUSE", "CLAUSES*"}};
            case "CLAUSE":
                return orders
                    ? new String[][] {{"bury", "SUM", "at", "SUM", "TIMES?", "IF?"}, {"buy", "SUM", "TIMES?", "IF?"},
                        {"raise", "SUM", "TIMES?", "IF?"}, {"pass", "TIMES?", "IF?"}}
                    : new String[][] {{"moves", "SUM", "IF?"}, {"digs", "SUM", "IF?"}, {"goes", "IF?"}, {"bars", "IF?"}};
            case "TIMES?":
                return new String[][] {{}, {"times", "#TIMES"}};
            case "IF?":
                return new String[][] {{}, {"if", "TEST"}};
            case "TEST":
                return new String[][] {{"BOTH", "ORS*"}};
            case "ORS*":
                return new String[][] {{}, {"or", "BOTH", "ORS*"}};
            case "BOTH":
                return new String[][] {{"PLAIN", "ANDS*"}};
            case "ANDS*":
                return new String[][] {{}, {"and", "PLAIN", "ANDS*"}};
            case "PLAIN":
                return new String[][] {{"not", "PLAIN"}, {"(", "TEST", ")"}, {"SUM", "<", "SUM"}, {"SUM", ">", "SUM"},
                    {"SUM", "=", "SUM"}};
            case "SUM":
                return new String[][] {{"TERM", "TERMS*"}};
            case "TERMS*":
                return new String[][] {{}, {"+", "TERM", "TERMS*"}, {"-", "TERM", "TERMS*"}};
            case "TERM":
                return new String[][] {{"PART", "PARTS*"}};
            case "PARTS*":
                return new String[][] {{}, {"*", "PART", "PARTS*"}, {"/", "PART", "PARTS*"}, {"%", "PART", "PARTS*"}};
            case "PART":
                return new String[][] {{"#PART", "#NUMBER"}, {"[", "SUM", "]"}, {"#PART", "WORD"}};
            case "WORD":
                if (orders) {
                    return new String[][] {{"year"}, {"plots"}, {"done"}, {"moved"}, {"at", "#P"}, {"kind", "#C"},
                        {"bought", "#C"}};
                }
                String[][] words = new String[LAW_WORDS.length][];
                for (int i = 0; i < words.length; i++) {
                    words[i] = new String[] {LAW_WORDS[i]};
                }
                return words;
            default:
                return NO_CHOICE;
        }
    }
}
