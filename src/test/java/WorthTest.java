/** WORTH: what an EXPR is worth, operator by operator and VALUE by VALUE, and ints that wrap. */
final class WorthTest {
    private final Checks checks = new Checks();

    private WorthTest() {
    }

    public static void main(String[] args) {
        WorthTest test = new WorthTest();
        test.sums();
        test.divisions();
        test.tests();
        test.words();
        test.whatBindsMore();
        test.wrapping();
        test.deepest();
        test.numbers();
        test.values();
        test.firstStreet();
        test.ownAndKnows();
        test.checks.end();
    }

    /** The one bidder is 1 (0 has nothing), and has 999 COINS: the bid is from 0 to 999. */
    private void bid(String expr, int want) {
        WatchLots x = Checks.of("person 0 0; person 999 1; reserve 0; worth " + expr + ";");
        checks.is("worth " + expr, want, () -> x.given(-1));
    }

    /** The int that the EXPR is, also where it is no bid. */
    private void worth(String expr, int want) {
        bid("5 + ((" + expr + ") = " + number(want) + ")", 6);
        bid("5 + (((" + expr + ") + 1) = " + number(want) + ")", 5);
    }

    /** An EXPR of sums and products that is this int. */
    private static String number(int n) {
        if (n < 0) {
            return "(0 - " + (n == Integer.MIN_VALUE ? "8192 * 8192 * 32" : number(-n)) + ")";
        }
        return n < 10000 ? String.valueOf(n) : "(" + n / 9999 / 9999 + " * 9999 * 9999 + " + n / 9999 % 9999
                + " * 9999 + " + n % 9999 + ")";
    }

    /** From the left. */
    private void sums() {
        worth("1 + 2", 3);
        worth("1 - 2", -1);
        worth("9 - 3 - 2", 4);
        worth("9 - 3 + 2", 8);
        worth("1 - 2 - 3 - 4", -8);
        worth("3 * 4", 12);
        worth("2 + 3 * 4", 14);
        worth("3 * 4 + 2", 14);
        worth("2 - 3 * 4", -10);
        worth("(2 + 3) * 4", 20);
        worth("20 - (5 - 3)", 18);
        worth("20 - 12 / 3", 16);
    }

    /** / cut down to 0, by 0 gives 0. */
    private void divisions() {
        worth("7 / 2", 3);
        worth("(0 - 7) / 2", -3);
        worth("7 / (0 - 2)", -3);
        worth("(0 - 7) / (0 - 2)", 3);
        worth("1 / 2", 0);
        worth("(0 - 1) / 2", 0);
        worth("6 / 6", 1);
        worth("5 / 6", 0);
        worth("12 / 6", 2);
        worth("11 / 6", 1);
        worth("100 / 10 / 5", 2);
        worth("7 / 2 * 2", 6);
        worth("2 * 7 / 4", 3);
        worth("100 / 7 * 7", 98);
        worth("5 / 0", 0);
        worth("0 / 0", 0);
        worth("(0 - 5) / 0", 0);
        worth("5 / 0 + 3", 3);
        worth("5 / 0 * 7 - 1", -1);
        worth("5 / own", 0);
        worth("5 / (3 - 3)", 0);
        worth("0 / 5", 0);
    }

    /** Tests are 1 or 0. */
    private void tests() {
        worth("2 < 3", 1);
        worth("3 < 3", 0);
        worth("4 < 3", 0);
        worth("2 = 3", 0);
        worth("3 = 3", 1);
        worth("4 = 3", 0);
        worth("0 - 1 < 0", 1);
        worth("0 < 0 - 1", 0);
        worth("0 - 3 < 0 - 2", 1);
        worth("0 - 2 = 0 - 2", 1);
        worth("(2 < 3) + (3 = 3) + (3 < 2)", 2);
        worth("1 + 1 < 3", 1);
        worth("1 < 1 + 1", 1);
        worth("2 * 3 = 3 + 3", 1);
        worth("(1 < 2) < 3", 1);
        worth("1 < (2 < 3)", 0);
    }

    /** not, and, or are 1 or 0 (what isn't 0 holds). */
    private void words() {
        worth("not 0", 1);
        worth("not 1", 0);
        worth("not 7", 0);
        worth("not (0 - 1)", 0);
        worth("not not 7", 1);
        worth("not not not 7", 0);
        worth("not not not not not not 7", 1);
        worth("not not not not not 7", 0);
        worth("0 and 0", 0);
        worth("0 and 5", 0);
        worth("5 and 0", 0);
        worth("5 and 3", 1);
        worth("4 and 3", 1);
        worth("1 and 2", 1);
        worth("(0 - 1) and (0 - 2)", 1);
        worth("0 or 0", 0);
        worth("0 or 5", 1);
        worth("5 or 0", 1);
        worth("5 or 3", 1);
        worth("4 or (0 - 4)", 1);
        worth("(0 - 1) or 0", 1);
        worth("1 and 2 and 3", 1);
        worth("1 and 2 and 0", 0);
        worth("0 and 1 and 2", 0);
        worth("0 or 0 or 3", 1);
        worth("0 or 0 or 0", 0);
    }

    private void whatBindsMore() {
        worth("1 or 1 and 0", 1);
        worth("0 and 0 or 1", 1);
        worth("0 and 1 or 0", 0);
        worth("1 and (1 or 0)", 1);
        worth("(1 or 1) and 0", 0);
        worth("not 0 and 0", 0);
        worth("not 1 or 1", 1);
        worth("not (1 or 1)", 0);
        worth("not 1 = 0", 1);
        worth("not 0 < 1", 0);
        worth("not 0 + 1", 0);
        worth("not 1 - 1", 1);
        worth("(not 0) + 1", 2);
        worth("1 = 1 and 2 = 2", 1);
        worth("0 = 1 or 2 = 2", 1);
        worth("2 and 1 = 1", 1);
        worth("1 < 2 and 3", 1);
        worth("7 or 1 / 0", 1);
    }

    /** Ints that wrap. */
    private void wrapping() {
        worth("8192 * 8192 * 32", Integer.MIN_VALUE);
        worth("8192 * 8192 * 32 - 1", Integer.MAX_VALUE);
        worth("8192 * 8192 * 32 - 1 + 1", Integer.MIN_VALUE);
        worth("8192 * 8192 * 64", 0);
        worth("8192 * 8192 * 64 + 7", 7);
        worth("0 - 8192 * 8192 * 32", Integer.MIN_VALUE);
        worth("8192 * 8192 * 32 / (0 - 1)", Integer.MIN_VALUE);
        worth("8192 * 8192 * 32 * (0 - 1)", Integer.MIN_VALUE);
        worth("8192 * 8192 * 32 / 2", -1073741824);
        worth("8192 * 8192 * 31", 2080374784);
        worth("9999 * 9999 * 9999", 9999 * 9999 * 9999);
        worth("9999 * 9999 * 9999 / 9999", 9999 * 9999 * 9999 / 9999);
        worth("9999 * 9999 * 9999 * 9999", 9999 * 9999 * 9999 * 9999);
        bid("8192 * 8192 * 32 < 0", 1);
        bid("8192 * 8192 * 32 - 1 < 0", 0);
        bid("8192 * 8192 * 32", 0);
        bid("8192 * 8192 * 32 - 1", 999);
        bid("9999 * 9999 * 9999 < 0", 9999 * 9999 * 9999 < 0 ? 1 : 0);
    }

    /** Within five others, each with all that can wait for its right side: 31 ints wait at once. */
    private void deepest() {
        String open = "0 or 1 and 4 < 2 + 3 * (";
        String within = ")".repeat(5);
        bid(open.repeat(5) + "0 or 1 and 4 < 2 + 3 * 1" + within, 1);
        bid(open.repeat(5) + "0 or 1 and 4 < 2 + 3 * 0" + within, 0);
        bid("(((((8)))))", 8);
        String mixed = "4 + 5 * (0 or 1 and 1 = 2 - 1 * (0 or 1 and 5 < 2 + 4 * (0 or 1 and 6 = 5 + ";
        bid(mixed + "(0 or 1 and 1 = 0 + (3)))))", 4);
        bid(mixed + "(0 or 1 and 3 = 0 + (3)))))", 9);
        bid("9 - (8 - (7 - (6 - (5 - (4)))))", 3);
        bid("9 - (8 - (7 - (6 - (5 - 4))))", 3);
        bid("0 or 0 and 1 < 2 + 3 * (1) + 7", 0);
    }

    /** NUMBERS as they stand, kept to 0 to one's COINS. */
    private void numbers() {
        bid("0", 0);
        bid("1", 1);
        bid("007", 7);
        bid("998", 998);
        bid("999", 999);
        bid("1000", 999);
        bid("9999", 999);
        bid("0 - 1", 0);
        worth("9999", 9999);
        worth("0000", 0);
        worth("0010", 10);
    }

    /**
     * In NIGHT 4 there are three LOTS: 0 is SEEN in HOURS 1 to 5, in STREET 6 first, and has 17 COINS; 1 bids more
     * than 2, who has 800, so that the price of LOT 0 is what 2 bids.
     */
    private void value(String expr, int want) {
        WatchLots x = Checks.of("streets 8; round 3 6 7 6 6 6; person 17 0 6 7 6 6 6; person 900 1; person 800 1;"
                + "person 0 3; person 0 3; fog 9 9 9 9 0; reserve 0; worth " + expr + ";");
        x.nights(4);
        checks.is("LOTS", 25, () -> x.lots(1));
        checks.is("price by worth " + expr, want, () -> x.sold(0, 1, 1));
    }

    private void values() {
        value("20 + own", 20);
        value("coins", 800);
        value("theirs * 2", 34);
        value("20 + knows", 20);
        value("hours * 20", 100);
        value("street * 20", 120);
        value("lots * 20", 60);
        value("night * 20", 80);
        value("20 + hours * street - lots * night", 38);
        value("(street = 6) * 200 + (hours = 5) * 100 + (lots = 3) * 50 + (night = 4) * 25 + (theirs = 17)", 376);
    }

    /** Where first: the STREET of the first HOUR in which one is SEEN, not the WALK's first one. */
    private void firstStreet() {
        for (int hour = 0; hour < 6; hour++) {
            StringBuilder walk = new StringBuilder();
            for (int h = 0; h < 6; h++) {
                walk.append(h < hour ? " 7" : " " + (h % 6 + 1));
            }
            WatchLots x = Checks.of("streets 8; round 1 2 3 4 5 6; person 0" + walk
                    + "; person 999 0; reserve 0; worth 100 * street + 10 * hours;");
            int due = 100 * (hour + 1) + 10 * (6 - hour);
            checks.is("first in HOUR " + hour, due, () -> x.given(-1));
        }
        // a WALK of two places: HOUR 3 is at place 1
        WatchLots x = Checks.of("streets 8; round 1 1 1 5 1 1; person 0 4 5; person 999 0; reserve 0; worth street;");
        checks.is("place 1 of two", 5, () -> x.given(-1));
    }

    /** own: 1, if one is that PERSON; knows: 1, if one KNOWS that PERSON; whichever PERSON it is. */
    private void ownAndKnows() {
        for (int lot = 0; lot < 7; lot++) {
            for (int bidder = 0; bidder < 7; bidder++) {
                if (bidder != lot) {
                    ownAndKnows(lot, bidder);
                }
            }
        }
    }

    private void ownAndKnows(int lot, int bidder) {
        StringBuilder text = new StringBuilder("reserve 3; worth 50 - knows * 20 + own * 5;");
        for (int who = 0; who < 7; who++) {
            text.append("person ").append(who == bidder ? 900 : 0).append(who == lot ? " 0;" : " 1;");
        }
        WatchLots x = Checks.of(text.toString());
        String pair = bidder + " of " + lot;
        checks.is("KNOWS nobody yet " + pair, 50, () -> x.given(-1));
        x.nights(1);
        checks.is("KNOWS " + pair, 1 << lot, () -> x.person(bidder, 2));
        checks.is("bids by that " + pair, 30, () -> x.given(-1));
        x.nights(1);
        checks.is("and KNOWS ever after " + pair, 1 << lot, () -> x.person(bidder, 2));
        for (int who = 0; who < 7; who++) {
            int p = who;
            if (who != bidder) {
                checks.is("KNOWS nobody " + who, 0, () -> x.person(p, 2));
            }
        }
        x.earn(lot, 99);
        checks.is("one's own " + pair, 55, () -> x.given(-1));
        checks.is("goes to oneself " + pair, lot, () -> x.given(lot));
    }
}
