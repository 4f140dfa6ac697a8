import java.util.Set;
import java.util.function.ToIntFunction;

/**
 * Behind each beginning of a TEXT every kind of TOKEN: whether it can stand there, or which FAULT it is, at which
 * place. A beginning is one for each place of the document's LINE and EXPR, at their bounds.
 */
final class TokenTest {
    private static final Set<String> VALUES =
            Set.of("own", "coins", "theirs", "knows", "hours", "street", "lots", "night");
    private static final String[] WORDS = {"streets", "path", "round", "person", "bishop", "fog", "reserve", "worth",
        "not", "and", "or", "own", "coins", "theirs", "knows", "hours", "street", "lots", "night", "x", "paths",
        "streetss", "worthx", "nott", "orr", "ownn"};
    private static final String[] NUMBERS = {"0", "1", "2", "3", "4", "5", "6", "7", "8", "9", "10", "99", "100", "999",
        "1000", "9999", "00", "01", "0000", "0003", "0008", "0099", "0999", "00000", "00003", "10000", "99999",
        "1234567890", "4294967299"};
    private static final String[] SIGNS = {";", "(", ")", "+", "-", "*", "/", "<", "=", ",", ".", ">", "!", "A", "Z",
        "[", "`", "{", "_", ":", "'", "\"", "#", "\t", "\r", "\0", "\1", "\2", "\3", "\u007f", "\u0080", "\u00ff"};
    private static final String SIX_NOTS = "not not not not not not";

    private final Checks checks = new Checks();

    private TokenTest() {
    }

    public static void main(String[] args) {
        TokenTest test = new TokenTest();
        test.lineStarts();
        test.linesOfNumbers();
        test.pathLines();
        test.streetRows();
        test.fogRows();
        test.expressions();
        test.deepExpressions();
        test.checks.end();
    }

    /** Each TOKEN behind the beginning; the rule tells 0, if it can stand there, or its FAULT. */
    private void behind(String beginning, ToIntFunction<String> rule) {
        for (String[] kind : new String[][] {WORDS, NUMBERS, SIGNS, {""}}) {
            for (String token : kind) {
                token(beginning, token, rule.applyAsInt(token));
            }
        }
    }

    private void token(String beginning, String token, int due) {
        String text = beginning + " " + token;
        int place = beginning.length() + 1;
        WatchLots lots = new WatchLots();
        int got = Checks.tell(lots, text);
        if (due == 0) {
            checks.due(text + " can stand", true, got == 0 || lots.fault() > place);
            return;
        }
        checks.due(text, due + " at " + place, got + " at " + lots.fault());
        if (!token.isEmpty()) {
            WatchLots more = new WatchLots();
            int first = Checks.tell(more, text + " ; 12345 $ x");
            checks.due(text + " and more FAULTS", due + " at " + place, first + " at " + more.fault());
        }
    }

    private static boolean isNumber(String token) {
        return token.matches("[0-9]+");
    }

    private static boolean isWord(String token) {
        return token.matches("[a-z]+");
    }

    private static ToIntFunction<String> only(String... tokens) {
        Set<String> all = Set.of(tokens);
        return t -> all.contains(t) ? 0 : 1;
    }

    private static ToIntFunction<String> number(int least, int most) {
        return t -> {
            if (!isNumber(t)) {
                return 1;
            }
            return t.length() > 4 || Integer.parseInt(t) < least || Integer.parseInt(t) > most ? 2 : 0;
        };
    }

    /** A STREET of so many; these ones are FAULT 4. */
    private static ToIntFunction<String> street(int streets, Integer... notNow) {
        Set<Integer> bad = Set.of(notNow);
        return t -> {
            if (!isNumber(t) || t.length() > 4) {
                return isNumber(t) ? 2 : 1;
            }
            int n = Integer.parseInt(t);
            return n >= streets ? 3 : bad.contains(n) ? 4 : 0;
        };
    }

    private static ToIntFunction<String> orEnd(ToIntFunction<String> rule) {
        return t -> t.equals(";") ? 0 : rule.applyAsInt(t);
    }

    /** The row is full: any NUMBER more is too much. */
    private static ToIntFunction<String> full() {
        return t -> isNumber(t) ? 2 : t.equals(";") ? 0 : 1;
    }

    /** A PART; 'not' is of the EXPR's beginning, and this is its FAULT. */
    private static ToIntFunction<String> part(int ofNot) {
        return t -> {
            if (isNumber(t)) {
                return t.length() > 4 ? 2 : 0;
            }
            if (isWord(t)) {
                return t.equals("not") ? ofNot : VALUES.contains(t) ? 0 : 3;
            }
            return t.equals("(") ? 0 : 1;
        };
    }

    private void lineStarts() {
        behind("", only("streets", "path", "round", "person", "bishop", "fog", "reserve", "worth", ""));
        behind("streets 4;round 0;fog 0;reserve 0;worth 0;", t -> switch (t) {
            case "path", "person", "bishop", "" -> 0;
            case "streets" -> 4;
            case "round", "fog", "reserve", "worth" -> 5;
            default -> 1;
        });
        behind("fog 0;reserve 0;worth 0;streets 8;", t -> switch (t) {
            case "path", "round", "person", "bishop", "" -> 0;
            case "streets", "fog", "reserve", "worth" -> 5;
            default -> 1;
        });
        ToIntFunction<String> all = only("path", "round", "person", "bishop", "fog", "reserve", "worth", "");
        behind(Texts.paths(13), t -> t.equals("streets") ? 4 : all.applyAsInt(t));
        behind(Texts.paths(14), t -> t.equals("streets") ? 4 : t.equals("path") ? 2 : all.applyAsInt(t));
        String six = "person 0 0;bishop 0 0;person 0 0;".repeat(2);
        behind(six, t -> t.equals("streets") ? 4 : all.applyAsInt(t));
        behind(six + "person 0 0;",
                t -> t.equals("streets") ? 4 : t.equals("person") || t.equals("bishop") ? 2 : all.applyAsInt(t));
        behind(six + "bishop 0 0;",
                t -> t.equals("streets") ? 4 : t.equals("person") || t.equals("bishop") ? 2 : all.applyAsInt(t));
    }

    private void linesOfNumbers() {
        behind("streets", number(2, 8));
        behind("streets 2", only(";"));
        behind("reserve", number(0, 99));
        behind("reserve 99", only(";"));
        behind("person", number(0, 999));
        behind("bishop", number(0, 999));
        behind("person 999", street(4));
        behind("bishop 0", street(4));
    }

    private void pathLines() {
        behind("path", street(4));
        behind("path 1", street(4, 1));
        behind("path 0003", street(4, 3));
        behind("path 1 2", only(";"));
        behind("path 0 1; path 1 2; path 1", street(4, 0, 1, 2));
        behind("path 0 1; path 1 2; path 2", street(4, 1, 2));
        behind("path 0 1; path 1 2; path", street(4));
        behind("streets 2; path", street(2));
        behind("streets 2; path 1", street(2, 1));
        behind("streets 8; path", street(8));
        behind("streets 8; path 7", street(8, 7));
        behind("streets 8; path 7 6", only(";"));
    }

    private void streetRows() {
        for (String line : new String[] {"round", "person 5", "bishop 5"}) {
            int most = line.equals("round") ? 8 : 6;
            for (int streets = 2; streets <= 8; streets++) {
                String told = "streets " + streets + ";" + line;
                behind(told, street(streets));
                behind(told + " 0 1".repeat(most / 2 - 1) + " 0", orEnd(street(streets)));
                behind(told + " 0 1".repeat(most / 2), full());
            }
            behind(line, street(4));
            behind(line + " 3", orEnd(street(4)));
        }
    }

    private void fogRows() {
        behind("fog", number(0, 9));
        behind("fog 9", orEnd(number(0, 9)));
        behind("fog 1 2 3 4 5 6 7", orEnd(number(0, 9)));
        behind("fog 1 2 3 4 5 6 7 8", full());
    }

    private void expressions() {
        ToIntFunction<String> begun = only(";", "+", "-", "*", "/", "<", "=", "and", "or");
        ToIntFunction<String> tested = only(";", "+", "-", "*", "/", "and", "or");
        ToIntFunction<String> within = only(")", "+", "-", "*", "/", "<", "=", "and", "or");
        for (String start : new String[] {"worth", "worth not", "worth 1 or", "worth own and", "worth (",
            "worth 1 and not", "worth not not not not not", "worth (1 < 2 or", "worth " + SIX_NOTS + " ("}) {
            behind(start, part(0));
        }
        for (String start : new String[] {"worth 1 +", "worth 1 -", "worth 1 *", "worth 1 /", "worth 1 <", "worth 1 =",
            "worth not 1 +", "worth (1 *", "worth 1 + 2 <", "worth 1 < 2 -", "worth 1 or 2 /"}) {
            behind(start, part(3));
        }
        for (String start : new String[] {"worth " + SIX_NOTS, "worth 1 or " + SIX_NOTS, "worth (1 and " + SIX_NOTS}) {
            behind(start, part(2));
        }
        for (String start : new String[] {"worth 1", "worth own", "worth 9999", "worth (1)", "worth not 1",
            "worth 1 + 2", "worth 1 * night", "worth 1 < 2 or 3", "worth 1 = 2 and not 3", "worth (1 < 2)"}) {
            behind(start, begun);
        }
        for (String start : new String[] {"worth 1 < 2", "worth 1 = 2", "worth 1 < 2 + 3", "worth 1 or 2 = 3 * 4"}) {
            behind(start, tested);
        }
        behind("worth (1", within);
        behind("worth ((1)", within);
        behind("worth (1 < 2", only(")", "+", "-", "*", "/", "and", "or"));
    }

    /** The seventh EXPR, one within six others, is too much by its first TOKEN. */
    private void deepExpressions() {
        ToIntFunction<String> tooDeep = t -> isNumber(t) || isWord(t) || t.equals("(") ? 2 : 1;
        for (String start : new String[] {"worth ((((((", "worth 1 + (2 * (3 < (not (4 or (5 and (",
            "worth (1) + ((((((", "worth " + SIX_NOTS + " ((((((", "worth (((((1 + ("}) {
            behind(start, tooDeep);
        }
        for (String start : new String[] {"worth (((((", "worth (1) + (((((", "worth (((((1)) or (("}) {
            behind(start, part(0));
        }
        behind("worth (((((1 +", part(3));
        behind("worth (((((1", only(")", "+", "-", "*", "/", "<", "=", "and", "or"));
        checks.good("worth (((((1)))));");
        checks.good("worth (((((1))))) + (((((2)))));");
        checks.good("worth (((((1) + (2)) + (3)) + (4)) + (5)) + (6);");
    }
}
