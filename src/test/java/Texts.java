import java.util.ArrayList;
import java.util.List;
import java.util.Random;

/** WARDS by a seed: good ones, and ones that were spoilt somewhere. */
final class Texts {
    private static final String[] VALUES = {"own", "coins", "theirs", "knows", "hours", "street", "lots", "night"};
    private static final String[] BITS = {"streets", "path", "round", "person", "bishop", "fog", "reserve", "worth",
        "not", "and", "or", "own", "x", "0", "1", "3", "8", "12", "99", "100", "999", "1000", "12345", "00001", "0007",
        ";", "(", ")", "+", "-", "*", "/", "<", "=", ",", "A", "\t", "\u00e9", "((((((", "not not not not not not",
        "9 9 9", "0 1 0 1 0 1 0 1", "path 0 1;", "streets 4;", "fog 1;", "reserve 1;", "round 0;", "worth 1;"};

    private final Random random;

    Texts(Random random) {
        this.random = random;
    }

    /** A TEXT of so many PATHS (at most 14) between 8 STREETS. */
    static String paths(int many) {
        StringBuilder b = new StringBuilder("streets 8;");
        int left = many;
        for (int i = 0; i < 8; i++) {
            for (int j = i + 1; j < 8 && left > 0; j++) {
                b.append("path ").append(j).append(' ').append(i).append(';');
                left--;
            }
        }
        return b.toString();
    }

    private int upTo(int most) {
        return random.nextInt(most + 1);
    }

    private String row(int streets, int most) {
        StringBuilder b = new StringBuilder();
        int many = 1 + random.nextInt(most);
        for (int i = 0; i < many; i++) {
            b.append(' ').append(random.nextInt(streets));
        }
        return b.toString();
    }

    private String part(int deep) {
        int kind = random.nextInt(10);
        if (kind < 2 && deep < 5) {
            return "(" + expr(deep + 1) + ")";
        }
        if (kind < 5) {
            return String.valueOf(random.nextInt(kind == 4 ? 10000 : 30));
        }
        return VALUES[random.nextInt(VALUES.length)];
    }

    private String expr(int deep) {
        StringBuilder b = new StringBuilder();
        int parts = 1 + random.nextInt(4);
        boolean tested = false;
        for (int i = 0; i < parts; i++) {
            if (i == 0 && random.nextInt(8) == 0) {
                b.append("not ".repeat(1 + random.nextInt(3)));
            }
            b.append(part(deep));
            if (i < parts - 1) {
                int kind = random.nextInt(tested ? 8 : 10);
                if (kind < 4) {
                    b.append("+-**".charAt(kind));
                } else if (kind < 6) {
                    b.append('/');
                } else if (kind < 8) {
                    b.append(kind == 6 ? " and " : " or ").append(random.nextInt(6) == 0 ? "not " : "");
                    tested = false;
                } else {
                    b.append(kind == 8 ? '<' : '=');
                    tested = true;
                }
            }
        }
        return b.toString();
    }

    String good() {
        List<String> lines = new ArrayList<>();
        int streets = random.nextInt(4) == 0 ? 4 : 2 + random.nextInt(7);
        int paths = random.nextInt(12);
        for (int i = 0; i < paths; i++) {
            int a = random.nextInt(streets);
            int b = random.nextInt(streets);
            String path = "path " + Math.min(a, b) + " " + Math.max(a, b) + ";";
            if (a != b && !lines.contains(path)) {
                lines.add(path);
            }
        }
        if (random.nextInt(5) > 0) {
            lines.add("round" + row(streets, 8) + ";");
        }
        int people = random.nextInt(8);
        for (int i = 0; i < people; i++) {
            String coins = String.valueOf(random.nextInt(4) == 0 ? upTo(999) : upTo(80));
            lines.add((random.nextInt(3) == 0 ? "bishop " : "person ") + coins + row(streets, 6) + ";");
        }
        if (random.nextInt(3) > 0) {
            lines.add("fog" + row(10, 8) + ";");
        }
        if (random.nextInt(3) > 0) {
            lines.add("reserve " + (random.nextInt(4) == 0 ? upTo(99) : upTo(12)) + ";");
        }
        if (random.nextInt(2) > 0) {
            lines.add("worth " + expr(0) + ";");
        }
        java.util.Collections.shuffle(lines, random);
        if (streets != 4 || random.nextBoolean()) {
            lines.add(0, "streets " + streets + ";");
        }
        String text = String.join(random.nextBoolean() ? "\n" : "", lines);
        return text.length() > 700 ? text.substring(0, text.lastIndexOf(';', 699) + 1) : text;
    }

    String spoilt() {
        StringBuilder b = new StringBuilder(good());
        int times = 1 + random.nextInt(3);
        for (int i = 0; i < times; i++) {
            int at = upTo(b.length());
            int kind = random.nextInt(4);
            if (kind == 0) {
                b.setLength(at);
            } else if (kind == 1 && at < b.length()) {
                b.deleteCharAt(at);
            } else {
                b.insert(at, " " + BITS[random.nextInt(BITS.length)] + (kind == 2 ? " " : ""));
            }
        }
        return b.length() > 700 ? b.substring(0, 700) : b.toString();
    }
}
