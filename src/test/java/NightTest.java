import java.util.function.IntSupplier;

/** A NIGHT, sentence by sentence: who is SEEN, who bids what, who has a LOT for how much, and what is left. */
final class NightTest {
    private final Checks checks = new Checks();

    private NightTest() {
    }

    public static void main(String[] args) {
        NightTest test = new NightTest();
        test.watchPlaces();
        test.watchFarAway();
        test.walkPlaces();
        test.fogBelowSeven();
        test.bribing();
        test.ownWithoutWorth();
        test.othersWithoutWorth();
        test.knownWithoutWorth();
        test.keptToCoins();
        test.bishops();
        test.likeBids();
        test.moreThanNothing();
        test.reserveOrMore();
        test.nextBid();
        test.lotByLot();
        test.coinsAreGone();
        test.knowing();
        test.darkness();
        test.behindTheNight();
        test.checks.end();
    }

    private void is(String what, int want, IntSupplier call) {
        checks.is(what, want, call);
    }

    /** HOURS 0 to 5; the place 6 by k and h MOD how many THE ROUND has. */
    private void watchPlaces() {
        String row = "";
        for (int n = 1; n <= 8; n++) {
            row += " " + (n - 1);
            int many = n;
            WatchLots x = Checks.of("streets 8; round" + row + ";");
            for (int k = 1; k <= 40; k++) {
                for (int h = 0; h < 6; h++) {
                    int night = k;
                    int hour = h;
                    is("watch " + k + " " + h + " of " + n, (6 * (k - 1) + h) % many, () -> x.watch(night, hour));
                }
            }
            checks.illegal("HOUR -1", () -> x.watch(1, -1));
            checks.illegal("HOUR 6", () -> x.watch(1, 6));
        }
    }

    private void watchFarAway() {
        WatchLots x = Checks.of("streets 7; round 0 1 2 3 4 5 6; person 0 3;");
        for (int night = 20; night <= 980; night += 20) {
            x.nights(20);
            int now = night;
            is("NIGHT " + night, 6 * now % 7, () -> x.watch(1, 0));
        }
        is("to the last NIGHT", 999, () -> x.nights(19));
        is("its first HOUR", 6 * 999 % 7, () -> x.watch(1, 0));
        is("39 behind it", (6 * 1038 + 5) % 7, () -> x.watch(40, 5));
        is("lantern then", 1 << (3 - 6 * 999 % 7 + 7) % 7, () -> x.lantern(3));
        is("SEEN then", 1 << (3 - 6 * 999 % 7 + 7) % 7, () -> x.person(0, 4));
    }

    /** The STREET of the WALK at place h MOD how many that has. */
    private void walkPlaces() {
        for (int length = 1; length <= 6; length++) {
            for (int there = 0; there < length; there++) {
                int hours = 0;
                StringBuilder walk = new StringBuilder();
                for (int place = 0; place < length; place++) {
                    walk.append(place == there ? " 1" : " 2");
                }
                for (int h = 0; h < 6; h++) {
                    hours |= h % length == there ? 1 << h : 0;
                }
                WatchLots x = Checks.of("round 1; person 9" + walk + "; person 0 1;");
                int due = hours;
                is("SEEN on" + walk, due, () -> x.person(0, 4));
                is("meet on" + walk, due, () -> x.meet(0, 1));
                is("meet from there" + walk, due, () -> x.meet(1, 0));
                is("SAFE on" + walk, (1 << walk.length() / 2) - 1 & ~(1 << walk.indexOf("1") / 2), () -> x.safe(0));
            }
        }
    }

    /** SEEN, if FOG of the NIGHT is below 7. */
    private void fogBelowSeven() {
        for (int fog = 0; fog <= 9; fog++) {
            boolean isThin = fog < 7;
            WatchLots x = Checks.of("fog " + fog + "; person 9 0; person 50 1;");
            is("LOTS in FOG " + fog, isThin ? 1 : 0, () -> x.lots(1));
            is("HOURS in FOG " + fog, isThin ? 63 : 0, () -> x.person(0, 4));
            is("BUYER in FOG " + fog, isThin ? 1 : -1, () -> x.sold(0, 1, 0));
            is("first in FOG " + fog, isThin ? 1 : -1, () -> x.first(0));
            is("secret in FOG " + fog, isThin ? 2 : 3, x::secret);
            is("haunt in FOG " + fog, isThin ? 0 : -1, () -> x.haunt(40));
            is("toWin in FOG " + fog, isThin ? 10 : -1, () -> x.toWin(1, 0));
            is("given in FOG " + fog, isThin ? 33 : 0, () -> x.given(-1));
            x.tell(0, 12, true);
            is("TOLD in FOG " + fog, isThin ? 1 : 0, () -> x.otherwise(2));
            x.nights(1);
            is("sold in FOG " + fog, isThin ? 1 : 0, () -> x.person(1, 2));
        }
        WatchLots y = Checks.of("fog 6 7 0 9 8; person 9 0; person 9 1;");
        for (int k = 1; k <= 40; k++) {
            int night = k;
            is("LOTS " + k, (k - 1) % 5 == 0 || (k - 1) % 5 == 2 ? 1 : 0, () -> y.lots(night));
        }
    }

    /** In the NIGHT that comes one who BRIBES isn't SEEN, and in the next one again. */
    private void bribing() {
        WatchLots x = Checks.of("person 50 0; person 50 0;");
        x.bribe(1);
        is("not SEEN", 0, () -> x.person(1, 4));
        is("the other one", 63, () -> x.person(0, 4));
        is("LOTS of the first", 1, () -> x.lots(1));
        is("LOTS of the second", 3, () -> x.lots(2));
        is("LOTS of the 40th", 3, () -> x.lots(40));
        is("first", 2, () -> x.first(1));
        is("no secret", 0, x::secret);
        is("no BUYER", -1, () -> x.sold(1, 1, 0));
        is("no PRICE", -1, () -> x.sold(1, 1, 1));
        is("a bid for the other's LOT", 33, () -> x.sold(0, 1, 1));
        is("a BUYER in the second", 1, () -> x.sold(1, 2, 0));
        is("meets all the same", 63, () -> x.meet(0, 1));
        is("is no safer", 0, () -> x.safe(1));
        x.nights(1);
        is("SEEN again", 63, () -> x.person(1, 4));
        is("LOTS again", 3, () -> x.lots(1));
    }

    private static String walkOf(int hours) {
        return " 0".repeat(hours) + " 1".repeat(6 - hours);
    }

    /** 20, if it is one's own, 5 more for each HOUR, kept to one's COINS. */
    private void ownWithoutWorth() {
        for (int hours = 1; hours <= 6; hours++) {
            int bid = 20 + 5 * hours;
            for (int coins = bid - 1; coins <= bid + 1; coins++) {
                WatchLots x = Checks.of("person " + coins + walkOf(hours) + ";");
                is("own, " + hours + " HOURS, " + coins, Math.min(bid, coins), () -> x.given(-1));
            }
        }
        WatchLots none = Checks.of("person 999" + walkOf(0) + ";");
        is("no HOUR, no LOT", 0, () -> none.given(-1));
    }

    /** 3, if it isn't one's own, 5 more for each HOUR. */
    private void othersWithoutWorth() {
        for (int hours = 1; hours <= 6; hours++) {
            int bid = 3 + 5 * hours;
            for (int coins = bid - 1; coins <= bid + 1; coins++) {
                WatchLots x = Checks.of("person 0" + walkOf(hours) + "; person " + coins + " 1;");
                is("another one's, " + hours + " HOURS, " + coins, Math.min(bid, coins), () -> x.given(-1));
            }
        }
    }

    /** 9 less, if one KNOWS that PERSON, kept to 0. */
    private void knownWithoutWorth() {
        for (int hours = 1; hours <= 6; hours++) {
            WatchLots x = Checks.of("person 999 2; person 999 1; person 0" + walkOf(hours) + ";");
            x.nights(1);
            is("0 KNOWS 2", 4, () -> x.person(0, 2));
            is("1 knows nobody", 0, () -> x.person(1, 2));
            // 1 bids 3 and 5 by HOURS, 0 bids 9 less
            is("1 has it", 1, () -> x.sold(2, 1, 0));
            is("for what 0 bids, or RESERVE", Math.max(5, 5 * hours - 6), () -> x.sold(2, 1, 1));
            x.nights(1);
            is("1 KNOWS 2", 4, () -> x.person(1, 2));
            is("both bid 9 less", Math.max(0, 5 * hours - 6), () -> x.given(-1));
        }
    }

    /** Kept to 0 to one's COINS. */
    private void keptToCoins() {
        for (int coins = 0; coins <= 3; coins++) {
            int has = coins;
            WatchLots more = Checks.of("person " + coins + " 0; reserve 0; worth 2;");
            is("worth 2 of " + coins, Math.min(2, has), () -> more.given(-1));
            is("BUYER by " + coins, has > 0 ? 0 : -1, () -> more.sold(0, 1, 0));
        }
        for (int worth = -2; worth <= 2; worth++) {
            int bid = worth;
            WatchLots x = Checks.of("person 900 0; reserve 0; worth 2 - " + (2 - worth) + ";");
            is("worth " + worth, Math.max(0, bid), () -> x.given(-1));
            is("DARK by worth " + worth, bid > 0 ? 0 : 1, () -> x.dark(1));
        }
    }

    /** A bishop bids for one's own all COINS. */
    private void bishops() {
        for (int coins : new int[] {0, 1, 4, 5, 998, 999}) {
            for (String worth : new String[] {"", "worth 0;", "worth 0 - 5;", "worth 9999;"}) {
                WatchLots x = Checks.of("bishop " + coins + " 0;" + worth);
                is("all " + coins + " " + worth, coins, () -> x.given(-1));
                is("BUYER with " + coins + " " + worth, coins >= 5 ? 0 : -1, () -> x.sold(0, 1, 0));
            }
        }
        WatchLots other = Checks.of("person 0 0; bishop 999 1;");
        is("33 for another one's", 33, () -> other.given(-1));
        WatchLots worth = Checks.of("person 0 0; bishop 999 1; worth 44 + own;");
        is("WORTH for another one's", 44, () -> worth.given(-1));
        WatchLots last = Checks.of("person 80 1; bishop 80 0; worth 200;");
        is("of like bids the least", 0, () -> last.sold(1, 1, 0));
        WatchLots least = Checks.of("bishop 80 0; person 80 1; worth 200;");
        is("the bishop is the least", 0, () -> least.sold(0, 1, 0));
        is("for 80", 80, () -> least.sold(0, 1, 1));
    }

    /** Who bids most (of like ones the least). */
    private void likeBids() {
        int[][] rows = {{9, 9, 9, 0}, {8, 9, 9, 1}, {8, 8, 9, 2}, {9, 8, 9, 0}, {9, 9, 8, 0}, {8, 9, 8, 1},
            {0, 0, 9, 2}, {0, 9, 9, 1}, {9, 0, 0, 0}};
        for (int[] r : rows) {
            WatchLots x = Checks.of("person " + r[0] + " 1; person " + r[1] + " 1; person " + r[2] + " 0; worth 9;");
            String bids = r[0] + " " + r[1] + " " + r[2];
            is("BUYER of bids " + bids, r[3], () -> x.sold(2, 1, 0));
            x.nights(1);
            is("who KNOWS 2, bids " + bids, r[3] == 2 ? 0 : 4, () -> x.person(r[3], 2));
        }
        WatchLots seven = Checks.of("person 7 1;".repeat(6) + "person 7 0; worth 7;");
        is("of seven the least", 0, () -> seven.sold(6, 1, 0));
        WatchLots last = Checks.of("person 6 0;" + "person 6 1;".repeat(5) + "person 7 1; worth 7;");
        is("of seven the last", 6, () -> last.sold(0, 1, 0));
        is("for 6", 6, () -> last.sold(0, 1, 1));
    }

    /** If that is more than 0. */
    private void moreThanNothing() {
        WatchLots none = Checks.of("person 0 0; person 0 1; reserve 0; worth 9;");
        is("0 is no bid", -1, () -> none.sold(0, 1, 0));
        is("no PRICE", -1, () -> none.sold(0, 1, 1));
        is("one more in the DARK", 1, () -> none.dark(1));
        WatchLots one = Checks.of("person 1 0; person 0 1; reserve 0; worth 9;");
        is("1 is a bid", 0, () -> one.sold(0, 1, 0));
        is("for nothing", 0, () -> one.sold(0, 1, 1));
        is("none in the DARK", 0, () -> one.dark(40));
        is("COINS stay", 1, () -> one.then(0, 40, 0));
    }

    /** And RESERVE or more. */
    private void reserveOrMore() {
        for (int reserve : new int[] {0, 1, 5, 98, 99}) {
            for (int coins = Math.max(0, reserve - 1); coins <= reserve + 1; coins++) {
                WatchLots x = Checks.of("person " + coins + " 0; reserve " + reserve + "; worth 200;");
                boolean isSold = coins > 0 && coins >= reserve;
                String told = coins + " for RESERVE " + reserve;
                is("BUYER, " + told, isSold ? 0 : -1, () -> x.sold(0, 1, 0));
                is("PRICE, " + told, isSold ? reserve : -1, () -> x.sold(0, 1, 1));
                is("DARK, " + told, isSold ? 0 : 1, () -> x.dark(1));
                is("COINS, " + told, isSold ? coins - reserve : coins, () -> x.then(0, 1, 0));
            }
        }
    }

    /** For the next greatest bid of all, or RESERVE, whichever is more. */
    private void nextBid() {
        int[][] rows = {{20, 8, 0, 9}, {20, 9, 0, 9}, {20, 10, 0, 10}, {20, 8, 10, 10}, {20, 10, 8, 10},
            {20, 11, 10, 11}, {20, 10, 11, 11}, {10, 20, 11, 11}, {11, 20, 10, 11}, {10, 11, 20, 11}, {11, 10, 20, 11},
            {20, 20, 0, 20},
            {0, 0, 20, 9}, {8, 7, 20, 9}, {20, 20, 20, 20}};
        for (int[] r : rows) {
            WatchLots x = Checks.of("person " + r[0] + " 1; person " + r[1] + " 0; person " + r[2]
                    + " 1; reserve 9; worth 30;");
            is("PRICE of bids " + r[0] + " " + r[1] + " " + r[2], r[3], () -> x.sold(1, 1, 1));
        }
    }

    /** LOT by LOT (by PEOPLE): who has paid for one bids less for the next one, and has others' COINS by then. */
    private void lotByLot() {
        WatchLots x = Checks.of("person 10 0; person 10 0; person 10 0; worth coins; reserve 4;");
        int[][] due = {{0, 10}, {1, 10}, {2, 4}};
        for (int lot = 0; lot < 3; lot++) {
            int who = lot;
            is("BUYER of " + lot, due[who][0], () -> x.sold(who, 1, 0));
            is("PRICE of " + lot, due[who][1], () -> x.sold(who, 1, 1));
        }
        WatchLots theirs = Checks.of("person 30 0; person 30 0; person 90 1; reserve 7; worth theirs;");
        // LOT 0: 30, 30, 30; LOT 1: 0, 30, 30
        is("theirs of LOT 0", 30, () -> theirs.sold(0, 1, 1));
        is("theirs of LOT 1", 1, () -> theirs.sold(1, 1, 0));
        is("30 of theirs", 30, () -> theirs.sold(1, 1, 1));
        WatchLots back = Checks.of("person 0 0; person 30 0; person 90 1; reserve 7; worth 20 + theirs;");
        // LOT 0: 0, 20, 20, so that 1 pays 20; LOT 1: 0, 10, 30
        is("1 has LOT 0", 1, () -> back.sold(0, 1, 0));
        is("2 has LOT 1", 2, () -> back.sold(1, 1, 0));
        is("for what is left", 10, () -> back.sold(1, 1, 1));
    }

    /** The COINS go to nobody. */
    private void coinsAreGone() {
        WatchLots x = Checks.of("person 0 0; person 40 1; person 60 2; worth 50; reserve 3;");
        x.nights(1);
        is("that PERSON has none of it", 0, () -> x.person(0, 0));
        is("nor has another one", 40, () -> x.person(1, 0));
        is("40 less", 20, () -> x.person(2, 0));
        is("of all", 60, () -> x.count(9));
    }

    /** One KNOWS that PERSON from then on, if it is another one. */
    private void knowing() {
        WatchLots x = Checks.of("person 90 0; person 0 0; reserve 1; worth 20;");
        x.nights(1);
        is("not oneself", 2, () -> x.person(0, 2));
        is("0 has one's own for RESERVE", 88, () -> x.person(0, 0));
        x.nights(1);
        is("once more, and for ever", 2, () -> x.person(0, 2));
        x.wander(1, 0, 3);
        x.nights(20);
        is("also when not SEEN", 2, () -> x.person(0, 2));
        is("and 1 nobody", 0, () -> x.person(1, 2));
        WatchLots circle = Checks.of("person 90 0; person 90 0; person 90 0; reserve 1; worth 20 - own * 20;");
        circle.nights(1);
        // LOT 0: 1 and 2 bid 20; LOT 1: 0 and 2; LOT 2: 0 and 1
        is("0 KNOWS 1 and 2", 6, () -> circle.person(0, 2));
        is("1 KNOWS 0", 1, () -> circle.person(1, 2));
        is("2 KNOWS nobody", 0, () -> circle.person(2, 2));
    }

    /** Else it is sold to nobody: the DARK has one LOT more. */
    private void darkness() {
        for (int many = 0; many <= 7; many++) {
            WatchLots x = Checks.of("person 4 0;".repeat(many) + "reserve 5;");
            int lots = many;
            is("DARK by a NIGHT", lots, () -> x.dark(1));
            is("DARK by 40", 40 * lots, () -> x.dark(40));
            x.nights(3);
            is("DARK now", 3 * lots, () -> x.count(7));
            is("DARK and 2 more", 5 * lots, () -> x.dark(2));
        }
    }

    /** Nobody is BRIBING any more then; the NIGHT is one more. */
    private void behindTheNight() {
        WatchLots x = Checks.of("person 50 0;".repeat(7));
        for (int who = 0; who < 7; who++) {
            x.bribe(who);
        }
        is("all are BRIBING", 127, () -> x.count(8));
        is("no LOT", 0, () -> x.lots(1));
        is("NIGHT 0", 0, () -> x.count(4));
        x.nights(1);
        is("nobody is", 0, () -> x.count(8));
        is("NIGHT 1", 1, () -> x.count(4));
        is("nothing sold", 315, () -> x.count(9));
        is("none in the DARK", 0, () -> x.count(7));
        x.nights(1);
        is("NIGHT 2", 2, () -> x.count(4));
        // each LOT goes to its own PERSON for the 33 of another one, the last for 12, for none has more by then
        is("sold in it", 105, () -> x.count(9));
    }
}
