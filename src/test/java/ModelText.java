import java.util.ArrayList;
import java.util.HashSet;
import java.util.List;
import java.util.Set;
import java.util.regex.Matcher;
import java.util.regex.Pattern;

/** A TEXT read a second way: all TOKENS first, then a tree of the EXPR. */
final class ModelText {
    interface Values {
        int of(String name);
    }

    interface Expr {
        int of(Values values);
    }

    record Someone(int coins, boolean bishop, List<Integer> walk) {
    }

    private record Token(int place, String text) {
        boolean isNumber() {
            return text.matches("[0-9]+");
        }

        boolean isWord() {
            return text.matches("[a-z]+");
        }
    }

    private static final class Fault extends Exception {
        private static final long serialVersionUID = 1L;
        final int number;

        Fault(int number) {
            this.number = number;
        }
    }

    private static final Pattern TOKEN = Pattern.compile("[a-z]+|[0-9]+|[^ \n]", Pattern.DOTALL);
    private static final Set<String> VALUES =
            Set.of("own", "coins", "theirs", "knows", "hours", "street", "lots", "night");

    int streets = 4;
    List<List<Integer>> paths = new ArrayList<>();
    List<Integer> round = new ArrayList<>(List.of(0));
    List<Someone> people = new ArrayList<>();
    List<Integer> fog = new ArrayList<>(List.of(0));
    int reserve = 5;
    Expr worth = null;
    int fault = 0;
    int faultPlace = -1;

    private final List<Token> tokens = new ArrayList<>();
    private final Set<String> once = new HashSet<>();
    private boolean streetTold = false;
    private int at = 0;

    ModelText(String text) {
        Matcher m = TOKEN.matcher(text);
        while (m.find()) {
            tokens.add(new Token(m.start(), m.group()));
        }
        tokens.add(new Token(text.length(), ""));
        try {
            while (!here("")) {
                line();
                sign(";");
            }
        } catch (Fault f) {
            fault = f.number;
            faultPlace = tokens.get(at).place();
        }
    }

    private boolean here(String text) {
        return tokens.get(at).text().equals(text);
    }

    private void sign(String text) throws Fault {
        if (!here(text)) {
            throw new Fault(1);
        }
        at++;
    }

    private void once(String word) throws Fault {
        if (!once.add(word)) {
            throw new Fault(5);
        }
        at++;
    }

    private int number(int low, int high) throws Fault {
        Token t = tokens.get(at);
        if (!t.isNumber()) {
            throw new Fault(1);
        }
        if (t.text().length() > 4) {
            throw new Fault(2);
        }
        int n = Integer.parseInt(t.text());
        if (n < low || n > high) {
            throw new Fault(2);
        }
        at++;
        return n;
    }

    private int street() throws Fault {
        int n = number(0, 9999);
        if (n >= streets) {
            at--;
            throw new Fault(3);
        }
        streetTold = true;
        return n;
    }

    private List<Integer> streetsUpTo(int most) throws Fault {
        List<Integer> row = new ArrayList<>();
        row.add(street());
        while (tokens.get(at).isNumber()) {
            if (row.size() == most) {
                throw new Fault(2);
            }
            row.add(street());
        }
        return row;
    }

    private void line() throws Fault {
        String word = tokens.get(at).text();
        switch (word) {
            case "streets" -> {
                if (streetTold) {
                    throw new Fault(4);
                }
                once(word);
                streets = number(2, 8);
            }
            case "path" -> path();
            case "round" -> {
                once(word);
                round = streetsUpTo(8);
            }
            case "person", "bishop" -> {
                if (people.size() == 7) {
                    throw new Fault(2);
                }
                at++;
                int coins = number(0, 999);
                people.add(new Someone(coins, word.equals("bishop"), streetsUpTo(6)));
            }
            case "fog" -> {
                once(word);
                fog = new ArrayList<>();
                fog.add(number(0, 9));
                while (tokens.get(at).isNumber()) {
                    if (fog.size() == 8) {
                        throw new Fault(2);
                    }
                    fog.add(number(0, 9));
                }
            }
            case "reserve" -> {
                once(word);
                reserve = number(0, 99);
            }
            case "worth" -> {
                once(word);
                worth = or(0);
            }
            default -> throw new Fault(1);
        }
    }

    private void path() throws Fault {
        if (paths.size() == 14) {
            throw new Fault(2);
        }
        at++;
        int a = street();
        int b = street();
        if (a == b || paths.contains(List.of(a, b)) || paths.contains(List.of(b, a))) {
            at--;
            throw new Fault(4);
        }
        paths.add(List.of(a, b));
    }

    private Expr or(int within) throws Fault {
        Token t = tokens.get(at);
        if (within == 6 && (t.isNumber() || t.isWord() || here("("))) {
            throw new Fault(2);
        }
        Expr left = and(within);
        while (here("or")) {
            at++;
            Expr l = left;
            Expr r = and(within);
            left = v -> (l.of(v) != 0) | (r.of(v) != 0) ? 1 : 0;
        }
        return left;
    }

    private Expr and(int within) throws Fault {
        Expr left = not(within, 1);
        while (here("and")) {
            at++;
            Expr l = left;
            Expr r = not(within, 1);
            left = v -> (l.of(v) != 0) & (r.of(v) != 0) ? 1 : 0;
        }
        return left;
    }

    private Expr not(int within, int which) throws Fault {
        if (here("not")) {
            if (which == 7) {
                throw new Fault(2);
            }
            at++;
            Expr e = not(within, which + 1);
            return v -> e.of(v) == 0 ? 1 : 0;
        }
        Expr l = sum(within);
        if (here("<") || here("=")) {
            boolean less = here("<");
            at++;
            Expr r = sum(within);
            return v -> (less ? l.of(v) < r.of(v) : l.of(v) == r.of(v)) ? 1 : 0;
        }
        return l;
    }

    private Expr sum(int within) throws Fault {
        Expr left = product(within);
        while (here("+") || here("-")) {
            int by = here("+") ? 1 : -1;
            at++;
            Expr l = left;
            Expr r = product(within);
            left = v -> l.of(v) + by * r.of(v);
        }
        return left;
    }

    private Expr product(int within) throws Fault {
        Expr left = part(within);
        while (here("*") || here("/")) {
            boolean times = here("*");
            at++;
            Expr l = left;
            Expr r = part(within);
            left = v -> times ? l.of(v) * r.of(v) : r.of(v) == 0 ? 0 : (int) ((long) l.of(v) / r.of(v));
        }
        return left;
    }

    private Expr part(int within) throws Fault {
        Token t = tokens.get(at);
        if (here("(")) {
            at++;
            Expr e = or(within + 1);
            sign(")");
            return e;
        }
        if (t.isWord()) {
            if (!VALUES.contains(t.text())) {
                throw new Fault(3);
            }
            at++;
            return v -> v.of(t.text());
        }
        int n = number(0, 9999);
        return v -> n;
    }
}
