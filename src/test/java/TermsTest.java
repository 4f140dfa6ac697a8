import java.nio.charset.StandardCharsets;
import java.util.Arrays;
import java.util.function.IntSupplier;

/** The Terms, sentence by sentence: how many of each there may be, what stands without them, and one beyond it. */
final class TermsTest {
    private static final int[] FAR = {-1, Integer.MIN_VALUE, Integer.MAX_VALUE};

    private final Checks checks = new Checks();

    private TermsTest() {
    }

    public static void main(String[] args) {
        TermsTest test = new TermsTest();
        test.streets();
        test.paths();
        test.round();
        test.people();
        test.coins();
        test.walks();
        test.fog();
        test.reserve();
        test.feeding();
        test.feedingOrder();
        test.longestText();
        test.textEnds();
        test.bytes();
        test.wordsAndNumbers();
        test.lineOrder();
        test.draftsAreClean();
        test.checks.end();
    }

    private void is(String what, int want, IntSupplier call) {
        checks.is(what, want, call);
    }

    /** STREETS 0 to how many there are (2 to 8; 4 without) less 1. */
    private void streets() {
        checks.fault(2, "streets #1;");
        checks.fault(2, "streets #9;");
        for (int n = 2; n <= 8; n++) {
            streetsOf("streets " + n + ";", n);
        }
        streetsOf("", 4);
        streetsOf("fog 1;", 4);
    }

    private void streetsOf(String text, int n) {
        WatchLots x = Checks.of(text + "person 9 " + (n - 1) + ";");
        is("STREETS of " + text, n, () -> x.count(0));
        for (int bad : new int[] {-1, n, Integer.MIN_VALUE, Integer.MAX_VALUE}) {
            checks.noSuch(text + " paths " + bad, () -> x.paths(bad));
            checks.noSuch(text + " lantern " + bad, () -> x.lantern(bad));
            checks.noSuch(text + " way " + bad, () -> x.way(bad, 0));
            checks.noSuch(text + " way to " + bad, () -> x.way(0, bad));
            checks.noSuch(text + " sneak " + bad, () -> x.sneak(bad, 0));
            checks.noSuch(text + " sneak to " + bad, () -> x.sneak(0, bad));
            checks.noSuch(text + " wander to " + bad, () -> x.wander(0, 0, bad));
        }
        is(text + " paths 0", 0, () -> x.paths(0));
        is(text + " paths of the last", 0, () -> x.paths(n - 1));
        is(text + " lantern of the last", 0, () -> x.lantern(n - 1));
        is(text + " way of the last", 0, () -> x.way(n - 1, n - 1));
        is(text + " sneak of the last", 0, () -> x.sneak(n - 1, n - 1));
        is(text + " wander to 0", n - 1, () -> x.wander(0, 0, 0));
        is(text + " wander to the last", 0, () -> x.wander(0, 0, n - 1));
        checks.fault(3, text + "path #" + n + " 0;");
        checks.fault(3, text + "path 0 #" + n + ";");
        checks.fault(3, text + "round #" + n + ";");
        checks.fault(3, text + "person 0 #" + n + ";");
        checks.good(text + "path " + (n - 1) + " 0; round " + (n - 1) + "; person 0 " + (n - 1) + ";");
    }

    /** PATHS (at most 14): two STREETS. */
    private void paths() {
        for (int many = 0; many <= 14; many++) {
            WatchLots x = Checks.of(Texts.paths(many));
            is("PATHS", many, () -> x.count(1));
            int bits = 0;
            for (int street = 0; street < 8; street++) {
                bits += Integer.bitCount(x.paths(street));
            }
            checks.due("each PATH is of two STREETS", 2 * many, bits);
        }
        checks.fault(2, Texts.paths(14) + "#path 2 4;");
        checks.fault(4, Texts.paths(13) + "path 0 #1;");
        checks.fault(4, Texts.paths(13) + "path 3 #3;");
        checks.fault(1, "path 0#;");
        checks.fault(1, "path 0 1 #2;");
        WatchLots x = Checks.of("path 3 1;");
        is("from the first", 2, () -> x.paths(3));
        is("from the second", 8, () -> x.paths(1));
        is("from no other", 0, () -> x.paths(0) | x.paths(2));
    }

    /** THE ROUND: 1 to 8 STREETS (STREET 0 alone without). */
    private void round() {
        checks.fault(1, "round#;");
        String row = "";
        for (int n = 1; n <= 8; n++) {
            row += " " + (n - 1);
            WatchLots x = Checks.of("streets 8; round" + row + ";");
            int many = n;
            is("places of THE ROUND", many, () -> x.count(3));
            for (int place = 0; place < n && place < 6; place++) {
                int hour = place;
                is("place " + place + " of " + n, place, () -> x.watch(1, hour));
            }
        }
        checks.fault(2, "streets 8; round" + row + " #0;");
        WatchLots none = Checks.of("");
        is("one place without", 1, () -> none.count(3));
        for (int k = 1; k <= 40; k++) {
            for (int hour = 0; hour < 6; hour++) {
                int night = k;
                int h = hour;
                is("STREET 0 alone", 0, () -> none.watch(night, h));
            }
        }
    }

    /** PEOPLE 0, 1 .. (at most 7). */
    private void people() {
        for (int n = 0; n <= 7; n++) {
            String text = "person 9 0;bishop 8 1;".repeat(4);
            int end = 0;
            for (int i = 0; i < n; i++) {
                end = text.indexOf(';', end) + 1;
            }
            WatchLots x = Checks.of(text.substring(0, end));
            int many = n;
            is("PEOPLE", n, () -> x.count(2));
            for (int bad : new int[] {-1, n, Integer.MIN_VALUE, Integer.MAX_VALUE}) {
                noSuchPerson(x, bad);
            }
            for (int who = 0; who < n; who++) {
                int p = who;
                is("COINS of " + who, who % 2 == 0 ? 9 : 8, () -> x.person(p, 0));
                is("bishop " + who, who % 2, () -> x.person(p, 3));
                is("WALK of " + who, who % 2, () -> x.walk(p, 0));
            }
            is("COINS of all", many / 2 * 17 + many % 2 * 9, () -> x.count(9));
        }
        checks.fault(2, "person 9 0;".repeat(7) + "#person 9 0;");
        checks.fault(2, "person 9 0;".repeat(7) + "#bishop 9 0;");
        checks.fault(2, "bishop 9 0;".repeat(7) + "#person 9 0;");
        checks.fault(2, "person 9 0;".repeat(7) + "fog 1;#person;");
    }

    private void noSuchPerson(WatchLots x, int p) {
        checks.noSuch("person " + p, () -> x.person(p, 0));
        checks.noSuch("walk " + p, () -> x.walk(p, 0));
        checks.noSuch("bribe " + p, () -> x.bribe(p));
        checks.noSuch("wander " + p, () -> x.wander(p, 0, 0));
        checks.noSuch("earn " + p, () -> x.earn(p, 1));
        checks.noSuch("sold " + p, () -> x.sold(p, 1, 0));
        checks.noSuch("then " + p, () -> x.then(p, 1, 0));
        checks.noSuch("first " + p, () -> x.first(p));
        checks.noSuch("safe " + p, () -> x.safe(p));
        checks.noSuch("toHide " + p, () -> x.toHide(p));
        checks.noSuch("toWin " + p, () -> x.toWin(p, 0));
        checks.noSuch("toWin of " + p, () -> x.toWin(0, p));
        checks.noSuch("gossip " + p, () -> x.gossip(p));
        checks.noSuch("meet " + p, () -> x.meet(p, 0));
        checks.noSuch("meet with " + p, () -> x.meet(0, p));
        checks.noSuch("spends " + p, () -> x.spends(p, 1));
        checks.noSuch("unknown " + p, () -> x.unknown(p));
        checks.noSuch("tell " + p, () -> x.tell(p, 1, true));
        checks.noSuch("game " + p, () -> x.game(p, 0, 0));
        checks.noSuch("game with " + p, () -> x.game(0, p, 0));
        if (p != WatchLots.NONE) {
            checks.noSuch("given " + p, () -> x.given(p));
        }
    }

    /** COINS (0 to 999). */
    private void coins() {
        for (String line : new String[] {"person ", "bishop "}) {
            for (int coins : new int[] {0, 1, 998, 999}) {
                WatchLots x = Checks.of(line + coins + " 0;");
                is("COINS", coins, () -> x.person(0, 0));
                is("COINS of all", coins, () -> x.count(9));
            }
            checks.fault(2, line + "#1000 0;");
            checks.fault(1, line + "#-1 0;");
            checks.fault(1, line + "#;");
        }
    }

    /** A WALK (1 to 6 STREETS). */
    private void walks() {
        String row = "";
        for (int n = 1; n <= 6; n++) {
            row += " " + (8 - n);
            WatchLots x = Checks.of("streets 8; person 9 7; bishop 9" + row + "; person 9 7;");
            int many = n;
            is("places of the WALK", n, () -> x.person(1, 1));
            for (int place = 0; place < n; place++) {
                int p = place;
                is("place " + place + " of " + n, 7 - place, () -> x.walk(1, p));
            }
            for (int far : FAR) {
                checks.noSuch("walk place " + far, () -> x.walk(1, far));
                checks.noSuch("wander place " + far, () -> x.wander(1, far, 0));
            }
            checks.noSuch("one place more", () -> x.walk(1, many));
            checks.noSuch("wander one place more", () -> x.wander(1, many, 0));
            is("wander at the last", 8 - n, () -> x.wander(1, many - 1, 0));
        }
        checks.fault(2, "streets 8; person 9" + row + " #1;");
        checks.fault(2, "streets 8; bishop 9" + row + " #1;");
        checks.fault(1, "person 9#;");
    }

    /** FOG (1 to 8 numbers, 0 to 9 each): that of NIGHT k is the (k MOD how many)-th; 0 without. */
    private void fog() {
        checks.fault(1, "fog#;");
        checks.fault(2, "fog #10;");
        checks.fault(2, "fog 9 #10;");
        checks.fault(1, "fog #-1;");
        String row = "";
        for (int n = 1; n <= 8; n++) {
            row += " " + (10 - n);
            WatchLots x = Checks.of("fog" + row + ";");
            for (int night = 0; night <= 3 * n; night++) {
                int due = 9 - night % n;
                is("FOG of NIGHT " + night + " of " + n, due, () -> x.count(5));
                x.nights(1);
            }
        }
        checks.fault(2, "fog" + row + " #1;");
        WatchLots none = new WatchLots();
        for (int night = 0; night < 20; night++) {
            is("no FOG", 0, () -> none.count(5));
            none.nights(1);
        }
        for (int fog = 0; fog <= 9; fog++) {
            int due = fog;
            WatchLots x = Checks.of("fog " + fog + ";");
            is("FOG", due, () -> x.count(5));
        }
    }

    /** RESERVE (0 to 99; 5 without). */
    private void reserve() {
        for (int coins : new int[] {0, 1, 98, 99}) {
            WatchLots x = Checks.of("reserve " + coins + ";");
            is("RESERVE", coins, () -> x.count(6));
        }
        checks.fault(2, "reserve #100;");
        checks.fault(1, "reserve #-1;");
        WatchLots none = Checks.of("person 9 0;");
        is("5 without", 5, () -> none.count(6));
    }

    /** Twenty bytes come behind the tape: NONE, and none come, if it would have more than 700. */
    private void feeding() {
        for (int many = 0; many <= 35; many++) {
            WatchLots x = new WatchLots();
            for (int i = 1; i <= many; i++) {
                x.feed(0x20202020, 0x20202020, 0x20202020, 0x20202020, 0x20202020);
            }
            int has = 20 * many;
            is("the tape", has, () -> x.count(12));
            checks.illegal("one byte more", () -> x.ward(has + 1));
            checks.illegal("-1", () -> x.ward(-1));
            is("one feed more", many < 35 ? has + 20 : -1, () -> x.feed(0x786f6720, 0, 0, 0, 0));
            is("the tape then", many < 35 ? has + 20 : 700, () -> x.count(12));
            is("none came over it", 0, () -> x.ward(has));
            is("all of it is gone", 0, () -> x.count(12));
            is("no STATUS", 0, () -> x.count(13) + x.count(14) + x.count(15));
        }
    }

    /** Of each number the highest byte first. */
    private void feedingOrder() {
        WatchLots x = new WatchLots();
        is("twenty bytes", 20, () -> x.feed(0x666f6720, 0x31203220, 0x33203420, 0x35203620, 0x3720383b));
        is("fog 1 2 3 4 5 6 7 8;", 0, () -> x.ward(20));
        for (int night = 0; night < 8; night++) {
            int fog = night + 1;
            is("in its order", fog, () -> x.count(5));
            x.nights(1);
        }
        for (int place = 0; place < 20; place++) {
            byte[] bytes = "                    ".getBytes(StandardCharsets.ISO_8859_1);
            bytes[place] = (byte) 0xe9;
            WatchLots y = new WatchLots();
            checks.due("a byte at " + place, 1, Checks.tell(y, bytes));
            is("its place", place, y::fault);
        }
    }

    /** A TEXT of at most 700 bytes. */
    private void longestText() {
        String blanks = " ".repeat(690);
        WatchLots x = Checks.of(blanks + "reserve 7;");
        is("700 bytes", 7, () -> x.count(6));
        checks.fault(1, blanks + "reserve 7#x");
        checks.fault(1, blanks + "reserve  7#");
        checks.fault(1, blanks + " ".repeat(9) + "#x");
        checks.good("\n".repeat(700));
        checks.good("path 0 1;" + " ".repeat(691));
        WatchLots many = Checks.of("worth 1" + "+1".repeat(346) + ";");
        String ones = "person 999 0; reserve 0; worth 1" + "+1".repeat(333) + ";";
        checks.due("699 bytes of 1+1", 0, Checks.tell(many, ones));
        is("of 334", 334, () -> many.given(-1));
        checks.fault(1, "worth 1" + "*1".repeat(346) + "+#");
        checks.good("worth " + "own or ".repeat(98) + "own;");
        checks.good("worth " + "own and ".repeat(85) + "own;");
        checks.good("worth " + "(1)*".repeat(172) + "(1);");
    }

    /** The tape's first n bytes alone are the TEXT, whatever stands behind them. */
    private void textEnds() {
        cut("fog", "s 1;", 1, 3);
        cut("fog 1", "2;", 1, 5);
        cut("fog 1", ";", 1, 5);
        cut("fog 1 ", ";", 1, 6);
        cut("fog 1 \n", "   ;", 1, 7);
        cut("fog ", "    1;", 1, 4);
        cut("fo", "g 1;", 1, 0);
        cut("fog 1;", "x", 0, -1);
        cut("fog 1;", "   ", 0, -1);
        cut("reserve 9", "9;", 1, 9);
        cut("reserve 1000", "0;", 2, 8);
        cut("worth own", "x;", 1, 9);
        cut("worth ow", "n;", 3, 6);
        cut("worth 1 +", "1;", 1, 9);
        cut("", "x", 0, -1);
        cut("path 0 ", "1;", 1, 7);
    }

    private void cut(String text, String behind, int due, int place) {
        WatchLots x = new WatchLots();
        byte[] bytes = Arrays.copyOf((text + behind).getBytes(StandardCharsets.ISO_8859_1), 20);
        x.feed(Checks.number(bytes, 0), Checks.number(bytes, 4), Checks.number(bytes, 8),
                Checks.number(bytes, 12), Checks.number(bytes, 16));
        is(text + "|" + behind, due, () -> x.ward(text.length()));
        is(text + "|" + behind + " at", place, x::fault);
    }

    /** Blanks (32, 10) count for nothing; what is no word, NUMBER or sign is no TOKEN. */
    private void bytes() {
        for (int i = 0; i < 256; i++) {
            char b = (char) i;
            boolean isBlank = i == 32 || i == 10;
            boolean isDigit = i >= '0' && i <= '9';
            between(String.valueOf(b), isBlank ? 0 : 1, isBlank ? -1 : 0);
            between("streets 4" + b + ";", isBlank ? 0 : isDigit ? 2 : 1,
                    isBlank ? -1 : isDigit ? 8 : i == ';' ? 10 : 9);
            between("fog 1;" + b, isBlank ? 0 : 1, isBlank ? -1 : 6);
            boolean joins = "+-*/<=".indexOf(b) >= 0;
            boolean ends = i == ';';
            between("worth 1" + b + "1;", isDigit || joins ? 0 : 1,
                    isDigit || joins ? -1 : isBlank || ends ? 8 : 7);
            between("wor" + b + "th 1;", 1, 0);
        }
    }

    private void between(String text, int due, int place) {
        WatchLots x = new WatchLots();
        checks.due("bytes of " + text, due + " at " + place, Checks.tell(x, text) + " at " + x.fault());
    }

    /** Words (the longest row), NUMBERS (1 to 4 digits); nothing need stand between them. */
    private void wordsAndNumbers() {
        checks.good("streets4;path0 1;round0 1 0;person9 1 2;bishop8 3;fog0;reserve0;worth own;");
        checks.good("worth 1or 2and not3;");
        checks.good("worth own*own+(own)or(own)and not(own);");
        checks.good("\n\nfog\n1\n;\n");
        checks.fault(1, "#streetspath 0 1;");
        checks.fault(1, "#roundround 0;");
        checks.fault(1, "#fogs 1;");
        checks.fault(1, "#fo g 1;");
        checks.fault(1, "#fo\ng 1;");
        checks.fault(3, "worth #ownown;");
        checks.fault(3, "worth #notown;");
        checks.fault(3, "worth #o wn;");
        checks.fault(1, "worth 1 #orown;");
        checks.fault(1, "worth 1 #andor;");
        checks.fault(1, "streets 4 #0;");
        checks.good("streets 0004; person 0999 0003; reserve 0099; fog 0009; worth 0000;");
        checks.fault(2, "streets #00004;");
        checks.fault(2, "path #00000 1;");
        checks.fault(2, "path 1 #00000;");
        checks.fault(2, "round #00000;");
        checks.fault(2, "round 0 #00000;");
        checks.fault(2, "person #00999 0;");
        checks.fault(2, "person 5 #00000;");
        checks.fault(2, "person 5 0 #00000;");
        checks.fault(2, "bishop #00999 0;");
        checks.fault(2, "fog #00000;");
        checks.fault(2, "fog 0 #00000;");
        checks.fault(2, "reserve #00000;");
        checks.fault(2, "worth #00000;");
        checks.fault(2, "worth #99999;");
        checks.fault(2, "worth 1 + #10000;");
        checks.fault(1, "streets 4 #00000;");
        checks.fault(1, "worth 1 #00000;");
    }

    /** WARD: LINE*, in any order, 'streets' ahead of any STREET alone. */
    private void lineOrder() {
        checks.good("");
        checks.good("worth 1; reserve 2; fog 3; streets 5; bishop 4 4; round 4; path 4 3; person 5 4;");
        checks.good("person 1 0; path 0 1; person 2 1; path 1 2; bishop 3 2; round 3;");
        WatchLots x = Checks.of("person 1 0; bishop 2 1; fog 3; person 4 2;");
        is("PEOPLE in their order", 4, () -> x.person(2, 0));
        is("the bishop among them", 2, () -> x.person(1, 0));
    }

    /** A WARD is all anew, whatever other TEXTS have told ahead of it, also ones with a FAULT. */
    private void draftsAreClean() {
        String full = Texts.paths(9) + "round 7 6 5 4;"
                + "bishop 999 7 6 5 4 3 2;".repeat(7) + "fog 9 8 7 6 5 4 3 2; reserve 99; worth 77;";
        String faulty = full + "x";
        for (int first = 0; first < 3; first++) {
            WatchLots x = new WatchLots();
            for (int i = 0; i < first; i++) {
                checks.due("a full text", 0, Checks.tell(x, full));
            }
            checks.due("one with a FAULT", 1, Checks.tell(x, faulty));
            checks.due("PEOPLE", first > 0 ? 7 : 0, x.count(2));
            checks.due("an empty text", 0, Checks.tell(x, ""));
            asNew(x);
            checks.due("a full text", 0, Checks.tell(x, full));
            checks.due("an empty text", 0, Checks.tell(x, ""));
            asNew(x);
            checks.due("an empty text again", 0, Checks.tell(x, ""));
            asNew(x);
            checks.due("two", 0, Checks.tell(x, "round 0 1; person 900 0; person 900 1; fog 1 2;"));
            is("no bishop", 0, () -> x.person(0, 3) + x.person(1, 3));
            is("no WORTH: twice 20 and 5 by 3", 70, () -> x.given(-1));
            is("places", 1, () -> x.person(1, 1));
            checks.noSuch("place 1", () -> x.walk(1, 1));
            noSuchPerson(x, 2);
            noSuchPerson(x, 6);
        }
    }

    private void asNew(WatchLots x) {
        int[] want = {4, 0, 0, 1, 0, 0, 5, 0, 0, 0, 0, 0, 0};
        for (int what = 0; what < want.length; what++) {
            int w = what;
            is("count " + w + " as new", want[w], () -> x.count(w));
        }
        for (int street = 0; street < 4; street++) {
            int s = street;
            is("paths as new", 0, () -> x.paths(s));
            is("lantern as new", s == 0 ? 63 : 0, () -> x.lantern(s));
        }
        noSuchPerson(x, 0);
        noSuchPerson(x, 6);
        for (int night = 0; night < 10; night++) {
            is("FOG as new", 0, () -> x.count(5));
            x.nights(1);
        }
    }
}
