import java.util.function.IntSupplier;

/** What is asked of NIGHTS to come, STREETS and PEOPLE, sentence by sentence: like ones, none, first and last. */
final class AskTest {
    // SEEN first in NIGHT 40, which is the 41st from NIGHT 0: 6 by 40 MOD 7 is 2, 40 MOD 8 is 0
    private static final String FAR = "round 0 0 1 0 0 0 0; fog 6 9 9 9 9 9 9 9; person 9 1 2 2 2 2 2;";
    private static final int[] BEYOND = {-1, 0, 41, 42, Integer.MIN_VALUE, Integer.MAX_VALUE};

    private final Checks checks = new Checks();

    private AskTest() {
    }

    public static void main(String[] args) {
        AskTest test = new AskTest();
        test.nightBounds();
        test.manyNightsBounds();
        test.fortyFirst();
        test.fortieth();
        test.firstOfTwo();
        test.buyersAndPrices();
        test.thenAndNow();
        test.darkThen();
        test.secrets();
        test.haunts();
        test.hauntsOfThisNight();
        test.watchBounds();
        test.ways();
        test.sneaks();
        test.sneaksInSixHours();
        test.safePlaces();
        test.hiding();
        test.toWinBounds();
        test.toWinAgainstOthers();
        test.toWinOneself();
        test.givenRows();
        test.givenToNobody();
        test.givenAsCoinsAre();
        test.gossips();
        test.gossipChain();
        test.famous();
        test.richest();
        test.lanterns();
        test.meeting();
        test.spending();
        test.strangers();
        test.checks.end();
    }

    private void is(String what, int want, IntSupplier call) {
        checks.is(what, want, call);
    }

    /** The k-th NIGHT (1 to 40). */
    private void nightBounds() {
        WatchLots x = Checks.of("person 9 0;");
        for (int k : BEYOND) {
            checks.illegal("lots " + k, () -> x.lots(k));
            checks.illegal("sold BUYER " + k, () -> x.sold(0, k, 0));
            checks.illegal("sold PRICE " + k, () -> x.sold(0, k, 1));
            checks.illegal("watch " + k, () -> x.watch(k, 0));
            checks.illegal("watch " + k + ", no HOUR", () -> x.watch(k, 6));
            checks.illegal("haunt " + k, () -> x.haunt(k));
            checks.noSuch("sold what ahead " + k, () -> x.sold(0, k, 2));
            checks.noSuch("sold what -1 ahead " + k, () -> x.sold(0, k, -1));
            checks.noSuch("sold PERSON ahead " + k, () -> x.sold(1, k, 0));
            checks.noSuch("sold PERSON -1 ahead " + k, () -> x.sold(-1, k, 0));
        }
        for (int k : new int[] {1, 2, 39, 40}) {
            is("lots " + k, 1, () -> x.lots(k));
            is("sold " + k, k == 1 ? 0 : -1, () -> x.sold(0, k, 0));
            is("PRICE " + k, k == 1 ? 5 : -1, () -> x.sold(0, k, 1));
            is("watch " + k, 0, () -> x.watch(k, 5));
            is("haunt " + k, 0, () -> x.haunt(k));
        }
        checks.noSuch("sold what 2", () -> x.sold(0, 1, 2));
        checks.noSuch("sold what -1", () -> x.sold(0, 1, -1));
    }

    /** So many NIGHTS (0 to 40). */
    private void manyNightsBounds() {
        WatchLots x = Checks.of("person 9 0;");
        for (int many : BEYOND) {
            if (many != 0) {
                checks.illegal("COINS then " + many, () -> x.then(0, many, 0));
                checks.illegal("KNOWS then " + many, () -> x.then(0, many, 1));
                checks.illegal("dark " + many, () -> x.dark(many));
                checks.illegal("spends " + many, () -> x.spends(0, many));
            }
            checks.noSuch("then what ahead " + many, () -> x.then(0, many, 2));
            checks.noSuch("then what -1 ahead " + many, () -> x.then(0, many, -1));
            checks.noSuch("then PERSON ahead " + many, () -> x.then(1, many, 0));
            checks.noSuch("then PERSON -1 ahead " + many, () -> x.then(-1, many, 0));
            checks.noSuch("spends PERSON ahead " + many, () -> x.spends(1, many));
            checks.noSuch("spends PERSON -1 ahead " + many, () -> x.spends(-1, many));
        }
        for (int many : new int[] {0, 1, 2, 39, 40}) {
            is("COINS then " + many, many == 0 ? 9 : 4, () -> x.then(0, many, 0));
            is("KNOWS then " + many, 0, () -> x.then(0, many, 1));
            is("dark " + many, Math.max(0, many - 1), () -> x.dark(many));
            is("spends " + many, many == 0 ? 0 : 5, () -> x.spends(0, many));
        }
        checks.noSuch("then what 2", () -> x.then(0, 1, 2));
        checks.noSuch("then what -1", () -> x.then(0, 1, -1));
    }

    /** The 41st NIGHT is not looked at. */
    private void fortyFirst() {
        WatchLots x = Checks.of(FAR);
        is("lots 40", 0, () -> x.lots(40));
        is("first", -1, () -> x.first(0));
        is("secret", 1, x::secret);
        is("haunt 40", -1, () -> x.haunt(40));
        is("then 40", 9, () -> x.then(0, 40, 0));
        is("dark 40", 0, () -> x.dark(40));
        is("sold 40", -1, () -> x.sold(0, 40, 0));
        is("spends 40", 0, () -> x.spends(0, 40));
    }

    /** The 40th is. */
    private void fortieth() {
        WatchLots x = Checks.of(FAR);
        x.nights(1);
        is("lots 39", 0, () -> x.lots(39));
        is("lots 40", 1, () -> x.lots(40));
        is("first", 40, () -> x.first(0));
        is("secret", 0, x::secret);
        is("haunt 39", -1, () -> x.haunt(39));
        is("haunt 40", 1, () -> x.haunt(40));
        is("then 39", 9, () -> x.then(0, 39, 0));
        is("then 40", 4, () -> x.then(0, 40, 0));
        is("sold 39", -1, () -> x.sold(0, 39, 0));
        is("sold 40", 0, () -> x.sold(0, 40, 0));
        is("PRICE 40", 5, () -> x.sold(0, 40, 1));
        is("spends 39", 0, () -> x.spends(0, 39));
        is("spends 40", 5, () -> x.spends(0, 40));
        x.reserve(10);
        is("dark 39", 0, () -> x.dark(39));
        is("dark 40", 1, () -> x.dark(40));
        is("none in the DARK for it", -1, () -> x.sold(0, 40, 1));
        x.nights(1);
        is("the 39th by now", 39, () -> x.first(0));
        is("lots 40 by now", 0, () -> x.lots(40));
    }

    private void firstOfTwo() {
        for (int k = 1; k <= 8; k++) {
            StringBuilder fog = new StringBuilder("fog");
            for (int i = 1; i <= 8; i++) {
                fog.append(i == k ? " 0" : " 7");
            }
            WatchLots x = Checks.of(fog + "; person 9 0; person 9 1;");
            int night = k;
            is("first " + k, night, () -> x.first(0));
            is("never", -1, () -> x.first(1));
            is("secret", 2, x::secret);
            x.nights(k);
            is("8 later", 8, () -> x.first(0));
        }
    }

    /** BUYER of a PERSON's LOT in it; the PRICE; none, also if the DARK has it, and without a LOT. */
    private void buyersAndPrices() {
        WatchLots x = Checks.of("fog 0 0 9; person 30 0; person 4 1; person 60 2; reserve 20;");
        is("2 bids 33 of 60, 0 bids 30", 2, () -> x.sold(0, 1, 0));
        is("for 30", 30, () -> x.sold(0, 1, 1));
        is("NIGHT 2: 24 and 30", 0, () -> x.sold(0, 2, 0));
        is("for 24", 24, () -> x.sold(0, 2, 1));
        is("NIGHT 3 is in FOG", -1, () -> x.sold(0, 3, 0));
        is("no PRICE in it", -1, () -> x.sold(0, 3, 1));
        is("NIGHT 4: 2 bids 24", 2, () -> x.sold(0, 4, 0));
        is("for RESERVE", 20, () -> x.sold(0, 4, 1));
        is("NIGHT 5: the DARK has it", -1, () -> x.sold(0, 5, 0));
        is("no PRICE of it", -1, () -> x.sold(0, 5, 1));
        is("no LOT", -1, () -> x.sold(1, 1, 0));
        is("no LOT's PRICE", -1, () -> x.sold(2, 1, 1));
        x.nights(1);
        is("the first one now", 0, () -> x.sold(0, 1, 0));
        is("its PRICE", 24, () -> x.sold(0, 1, 1));
        WatchLots free = Checks.of("person 7 0; reserve 0;");
        is("a PRICE of 0", 0, () -> free.sold(0, 40, 1));
    }

    private void thenAndNow() {
        WatchLots x = Checks.of("person 0 0; person 90 1; person 25 0; reserve 20;");
        // NIGHT 1: LOT 0: 0, 33, 25 - 1 pays 25; LOT 2: 0, 33, 25 - 1 pays 25
        is("COINS now", 90, () -> x.then(1, 0, 0));
        is("KNOWS nobody now", 0, () -> x.then(1, 0, 1));
        is("COINS behind one", 40, () -> x.then(1, 1, 0));
        is("KNOWS both", 5, () -> x.then(1, 1, 1));
        // NIGHT 2: LOT 0: 0, 24, 25 - 2 pays 24; LOT 2: 0, 24, 1 - 1 pays 20
        is("COINS behind two", 20, () -> x.then(1, 2, 0));
        is("COINS of 2", 1, () -> x.then(2, 2, 0));
        is("2 KNOWS 0", 1, () -> x.then(2, 2, 1));
        is("0 KNOWS nobody", 0, () -> x.then(0, 40, 1));
        is("all is as it was", 90, () -> x.person(1, 0));
        x.nights(2);
        is("so it comes", 20, () -> x.then(1, 0, 0));
        is("and so", 1, () -> x.then(2, 0, 1));
    }

    private void darkThen() {
        WatchLots x = Checks.of("fog 0 9; person 3 0; person 2 0; person 50 1; reserve 20;");
        // 2 buys both in NIGHT 0 for 20 each, and has 10 then
        is("now", 0, () -> x.dark(0));
        is("both are sold", 0, () -> x.dark(2));
        is("none is any more", 2, () -> x.dark(3));
        is("no LOT in FOG", 2, () -> x.dark(4));
        is("behind 40", 38, () -> x.dark(40));
        x.nights(3);
        is("as now", 2, () -> x.dark(0));
        is("and on", 4, () -> x.dark(2));
    }

    /** PEOPLE who are SEEN in none of 40 NIGHTS (bits). */
    private void secrets() {
        is("nobody", 0, () -> new WatchLots().secret());
        for (int base = 0; base < 128; base++) {
            StringBuilder text = new StringBuilder();
            for (int who = 0; who < 7; who++) {
                text.append("person 0 ").append(base >> who & 1).append(';');
            }
            WatchLots x = Checks.of(text.toString());
            int hidden = base;
            is("in STREET 1", hidden, x::secret);
            is("LOTS of the others", 127 - hidden, () -> x.lots(40));
        }
    }

    /** The STREET in which most PEOPLE are SEEN in so many NIGHTS (HOUR by HOUR; of like ones the least); none. */
    private void haunts() {
        WatchLots none = Checks.of("round 1; person 9 0;");
        is("none", -1, () -> none.haunt(1));
        WatchLots nobody = new WatchLots();
        is("nobody", -1, () -> nobody.haunt(40));
        WatchLots one = Checks.of("streets 8; round 7; person 9 7;");
        is("the last STREET", 7, () -> one.haunt(1));
        // 1 in HOURS 1 and 5 of one, 2 in HOUR 2 of two
        WatchLots like = Checks.of("round 0 1 2 3; person 9 1; person 9 2; person 9 2;");
        is("of like ones the least", 1, () -> like.haunt(1));
        WatchLots more = Checks.of("round 0 1 2 3; person 9 1; person 9 2; person 9 2; person 9 2;");
        is("one more", 2, () -> more.haunt(1));
        // HOUR by HOUR: one in five HOURS is more than four in one
        WatchLots hours = Checks.of("round 1 1 1 1 1 0; person 9 1;" + "person 9 2 2 2 2 2 0;".repeat(4));
        is("five HOURS of one", 1, () -> hours.haunt(1));
        WatchLots five = Checks.of("round 1 1 1 1 1 0; person 9 1;" + "person 9 2 2 2 2 2 0;".repeat(5));
        is("one HOUR of five", 0, () -> five.haunt(1));
        // STREET 3 in the third NIGHT alone, by two PEOPLE, in all HOURS; 2 in the first by one
        WatchLots later = Checks.of("round 2; fog 0 9 0; person 9 2; person 9 3; person 9 3;");
        is("in so many NIGHTS", 2, () -> later.haunt(40));
    }

    /** From the NIGHT that comes on; the one that was doesn't count. */
    private void hauntsOfThisNight() {
        WatchLots y = Checks.of("round 1 1 1 1 1 1 2; person 99 1; person 99 2; fog 0 0 9 9 9 9 9 9;");
        // NIGHT 0: 1 in six HOURS; NIGHT 1: 2 in one HOUR, 1 in five
        is("1 in NIGHT 0", 1, () -> y.haunt(1));
        y.nights(1);
        is("1 in NIGHT 1", 1, () -> y.haunt(1));
        y.wander(0, 0, 0);
        is("2 alone", 2, () -> y.haunt(1));
        y.wander(0, 0, 1);
        y.nights(1);
        is("none in FOG, whatever was", -1, () -> y.haunt(1));
        is("none in six", -1, () -> y.haunt(6));
        is("the seventh", 1, () -> y.haunt(7));
    }

    /** Where it is in an HOUR of the k-th NIGHT. */
    private void watchBounds() {
        WatchLots x = Checks.of("streets 5; round 0 1 2 3 4;");
        for (int bad : new int[] {-1, 6, Integer.MIN_VALUE, Integer.MAX_VALUE}) {
            checks.illegal("HOUR " + bad, () -> x.watch(1, bad));
            checks.illegal("HOUR " + bad + " of 40", () -> x.watch(40, bad));
        }
        is("HOUR 0", 0, () -> x.watch(1, 0));
        is("HOUR 5", 0, () -> x.watch(1, 5));
        is("HOUR 0 of 2", 1, () -> x.watch(2, 0));
        is("HOUR 0 of 40", 4, () -> x.watch(40, 0));
        is("HOUR 5 of 40", 4, () -> x.watch(40, 5));
    }

    /** A WAY between two STREETS: the fewest PATHS (0 to itself); none. */
    private void ways() {
        WatchLots line = Checks.of("streets 8; path 0 1; path 1 2; path 2 3; path 3 4; path 4 5; path 5 6; path 6 7;");
        WatchLots ring = Checks.of("streets 8; path 0 1; path 1 2; path 2 3; path 3 4; path 4 5; path 5 6; path 6 7;"
                + "path 7 0;");
        WatchLots none = Checks.of("streets 8;");
        for (int a = 0; a < 8; a++) {
            for (int b = 0; b < 8; b++) {
                int from = a;
                int to = b;
                int far = Math.abs(a - b);
                is("line " + a + " " + b, far, () -> line.way(from, to));
                is("ring " + a + " " + b, Math.min(far, 8 - far), () -> ring.way(from, to));
                is("none " + a + " " + b, a == b ? 0 : -1, () -> none.way(from, to));
            }
        }
        WatchLots two = Checks.of("streets 4; path 0 1; path 2 3;");
        is("to another part", -1, () -> two.way(1, 2));
        is("and back", -1, () -> two.way(3, 0));
        is("within it", 1, () -> two.way(3, 2));
    }

    /** One may never be where the watch is; each HOUR one stays, or goes by a PATH. */
    private void sneaks() {
        WatchLots x = Checks.of("path 0 1; path 1 2; round 3 1 1 3 3 3;");
        is("in HOUR 0", 0, () -> x.sneak(0, 0));
        is("1 is the watch's in HOURS 1 and 2", 3, () -> x.sneak(0, 1));
        is("2 is behind it", 4, () -> x.sneak(0, 2));
        is("and back", 4, () -> x.sneak(2, 0));
        is("no PATH to 3", -1, () -> x.sneak(0, 3));
        is("the watch is in 3 in HOUR 0", -1, () -> x.sneak(3, 3));
        WatchLots caught = Checks.of("path 0 1; round 2 0 2 2 2 2;");
        is("who stays is caught, who goes isn't", 1, () -> caught.sneak(0, 1));
        is("0 again in HOUR 2", 2, () -> caught.sneak(1, 0));
        WatchLots alone = Checks.of("round 2 0 2 2 2 2;");
        is("in HOUR 0 it's itself", 0, () -> alone.sneak(0, 0));
        WatchLots two = Checks.of("path 0 1; round 3 0 1 3 3 3;");
        is("1 is reached in HOUR 1", 1, () -> two.sneak(0, 1));
        WatchLots both = Checks.of("path 0 1; path 1 2; round 1 1 1 1 1 1 1 0;");
        is("never through 1", -1, () -> both.sneak(0, 2));
        both.nights(1);
        // NIGHT 1: 1 0 1 1 1 1
        is("in 1 in HOUR 1, when the watch is in 0", 2, () -> both.sneak(0, 2));
        WatchLots other = Checks.of("path 0 1; path 1 2; round 1 1 1 1 1 1 3 3;");
        is("not in NIGHT 0", -1, () -> other.sneak(0, 2));
        other.nights(1);
        // NIGHT 1: 3 3 1 1 1 1
        is("in 1 in HOUR 1, and in 2 by the next one", 2, () -> other.sneak(0, 2));
    }

    /** HOURS 0 to 5: no later one. */
    private void sneaksInSixHours() {
        WatchLots x = Checks.of("streets 8; path 0 1; path 1 2; path 2 3; path 3 4; path 4 5; path 5 6; round 7;");
        for (int far = 0; far <= 6; far++) {
            int to = far;
            is("to " + far, far <= 5 ? far : -1, () -> x.sneak(0, to));
            is("from " + far, far <= 5 ? far : -1, () -> x.sneak(to, 0));
        }
        for (int hour = 0; hour < 6; hour++) {
            String round = " 1".repeat(hour) + " 3" + " 1".repeat(5 - hour);
            WatchLots y = Checks.of("path 0 1; round" + round + ";");
            int due = hour;
            is("1 is free in HOUR " + hour, due == 0 ? -1 : due, () -> y.sneak(0, 1));
        }
        WatchLots last = Checks.of("path 0 1; round 1 1 1 1 1 1 3;");
        is("1 is free in no HOUR", -1, () -> last.sneak(0, 1));
    }

    /** Places of the WALK at which one is in no HOUR of the NIGHT that comes where the watch is. */
    private void safePlaces() {
        for (int hour = 0; hour < 6; hour++) {
            String round = " 1".repeat(hour) + " 0" + " 1".repeat(5 - hour);
            for (int length = 1; length <= 6; length++) {
                WatchLots x = Checks.of("round" + round + "; person 9" + " 0".repeat(length) + ";");
                int all = (1 << length) - 1;
                int caught = 1 << hour % length;
                String told = length + " places, HOUR " + hour;
                is("SAFE, " + told, all & ~caught, () -> x.safe(0));
                is("TO HIDE, " + told, 1, () -> x.toHide(0));
            }
        }
        WatchLots x = Checks.of("round 1 1 1 1 1 1 0; fog 9; person 50 0 0;");
        is("SAFE in NIGHT 0", 3, () -> x.safe(0));
        is("TO HIDE in NIGHT 0", 0, () -> x.toHide(0));
        x.bribe(0);
        x.nights(1);
        x.bribe(0);
        // NIGHT 1: 0 1 1 1 1 1, and neither FOG nor BRIBING matters
        is("SAFE in NIGHT 1", 2, () -> x.safe(0));
        is("TO HIDE in NIGHT 1", 1, () -> x.toHide(0));
    }

    /** How few places must be other STREETS, so that all are SAFE; none, if some place can't be so. */
    private void hiding() {
        WatchLots six = Checks.of("streets 6; round 0 1 2 3 4 5; person 9 0; person 9 0 1; person 9 0 1 2 3 4 5;");
        is("all six STREETS are the watch's", -1, () -> six.toHide(0));
        is("three at each place", 2, () -> six.toHide(1));
        is("one at each", 6, () -> six.toHide(2));
        WatchLots seven = Checks.of("streets 7; round 0 1 2 3 4 5; person 9 0; person 9 6; person 9 1 0;");
        is("one is left", 1, () -> seven.toHide(0));
        is("one is there", 0, () -> seven.toHide(1));
        is("none must", 0, () -> seven.toHide(2));
        // place 0 is HOURS 0, 2, 4: STREETS 0, 1 and 0; place 1 STREET 0 alone
        WatchLots some = Checks.of("streets 2; round 0 0 1 0 0 0; person 9 0 1; person 9 0 0 0;");
        is("place 0 can't be", -1, () -> some.toHide(0));
        is("place 2 is in 1 in HOUR 2, in 0 in HOUR 5", -1, () -> some.toHide(1));
        WatchLots last = Checks.of("streets 2; round 0 0 0 0 0 1; person 9 1 1 1 1 1 1; person 9 1;");
        is("HOUR 5 alone", 1, () -> last.toHide(0));
        is("0 and 1", -1, () -> last.toHide(1));
        WatchLots poor = Checks.of("round 0 0 0 0 0 1; person 0 2 2 2 2 2 1; person 0 0 0 0 0 0 1; person 1 2 0 2;");
        is("the last place, whatever COINS one has", 1, () -> poor.toHide(0));
        is("all places", 6, () -> poor.toHide(1));
        is("the place of HOURS 1 and 4", 1, () -> poor.toHide(2));
        is("SAFE but for the last", 31, () -> poor.safe(0));
    }

    /** TO WIN: the least COINS (0 to 999, in place of one's own); none; no LOT. */
    private void toWinBounds() {
        for (int reserve : new int[] {0, 1, 2, 5, 98, 99}) {
            WatchLots x = Checks.of("person 0 0; person 500 1; person 0 1; worth own * 9999; reserve " + reserve + ";");
            is("RESERVE " + reserve + ", more than 0", Math.max(1, reserve), () -> x.toWin(0, 0));
            is("whatever one has", 500, () -> x.person(1, 0));
            is("no LOT", -1, () -> x.toWin(0, 1));
            is("no LOT of one's own", -1, () -> x.toWin(2, 2));
        }
        WatchLots worth = Checks.of("person 0 0; person 500 1; reserve 40; worth 39;");
        is("one never bids RESERVE", -1, () -> worth.toWin(1, 0));
        WatchLots just = Checks.of("person 0 0; person 500 1; reserve 40; worth 40;");
        is("one does", 40, () -> just.toWin(1, 0));
        WatchLots fog = Checks.of("person 0 0; person 500 1; fog 7;");
        is("no LOT in FOG", -1, () -> fog.toWin(1, 0));
        WatchLots bribing = Checks.of("person 9 0; person 500 1; person 9 0;");
        is("a LOT", 10, () -> bribing.toWin(1, 0));
        bribing.bribe(0);
        is("no LOT of who is BRIBING", -1, () -> bribing.toWin(1, 0));
        is("nor by oneself", -1, () -> bribing.toWin(0, 0));
    }

    /** More than who is ahead of one bids, as much as who is behind one. */
    private void toWinAgainstOthers() {
        for (int rival : new int[] {0, 1, 5, 997, 998, 999}) {
            String rest = "reserve 0; worth 9999;";
            WatchLots ahead = Checks.of("person " + rival + " 1; person 3 1; person 0 0;" + rest);
            WatchLots behind = Checks.of("person 3 1; person " + rival + " 1; person 0 0;" + rest);
            is("behind " + rival, rival < 999 ? rival + 1 : -1, () -> ahead.toWin(1, 2));
            is("ahead of " + rival, Math.max(1, rival), () -> behind.toWin(0, 2));
            is("one's own COINS stay", 3, () -> ahead.person(1, 0));
        }
        WatchLots limit = Checks.of("person 20 1; person 3 1; person 0 0; reserve 0; worth 20;");
        is("as much isn't enough", -1, () -> limit.toWin(1, 2));
        is("for 0 it is", 3, () -> limit.toWin(0, 2));
        // LOT 0 costs 1 what 0 has, ahead of LOT 1
        WatchLots order = Checks.of("person 9 0; person 9 0; reserve 4; worth coins;");
        is("what is left", 5, () -> order.toWin(0, 1));
    }

    /** The LOT may be one's own; theirs is by these COINS too. */
    private void toWinOneself() {
        WatchLots own = Checks.of("person 7 0; person 30 1; reserve 0; worth 20 + own * 20;");
        is("as much as the other one's 20", 20, () -> own.toWin(0, 0));
        WatchLots bishop = Checks.of("person 30 1; bishop 7 0; reserve 0; worth 20;");
        is("a bishop with 1 more", 21, () -> bishop.toWin(1, 1));
        WatchLots theirs = Checks.of("person 7 0; person 30 1; reserve 0; worth 25 - theirs;");
        // with c COINS 0 bids min(c, 25 - c), and 1 25 - c
        is("25 less 13 is 12", 13, () -> theirs.toWin(0, 0));
        WatchLots never = Checks.of("person 30 1; person 7 0; reserve 0; worth theirs * 2;");
        // with c COINS 1 bids c, and 0 2 by c, to 30
        is("more than 30", 31, () -> never.toWin(1, 1));
    }

    /** All bids together are most; of like ones the first row (by LOTS; nobody behind all). */
    private void givenRows() {
        WatchLots all = Checks.of("person 7 0;".repeat(7) + "worth 7;");
        is("seven by 7", 49, () -> all.given(-1));
        for (int who = 0; who < 7; who++) {
            int p = who;
            is("the first row", p, () -> all.given(p));
        }
        WatchLots three = Checks.of("person 50 0; person 40 0; person 30 0; worth coins;");
        is("all COINS", 120, () -> three.given(-1));
        is("0", 0, () -> three.given(0));
        is("1", 1, () -> three.given(1));
        is("2", 2, () -> three.given(2));
        // one's own for 1, another one's for 9: the first row without one's own is 1 0 3 2
        WatchLots cross = Checks.of("person 50 0;".repeat(4) + "worth 9 - own * 8;");
        is("four by 9", 36, () -> cross.given(-1));
        int[] row = {1, 0, 3, 2};
        for (int who = 0; who < 4; who++) {
            int p = who;
            is("crosswise " + who, row[who], () -> cross.given(p));
        }
        WatchLots odd = Checks.of("person 50 0;".repeat(3) + "worth 9 - own * 8;");
        is("three by 9", 27, () -> odd.given(-1));
        is("1 2 0", 1, () -> odd.given(0));
        is("2", 2, () -> odd.given(1));
        is("0", 0, () -> odd.given(2));
        // LOT 0 would bring 9 by 0, but then LOT 1 brings nothing
        WatchLots less = Checks.of("person 50 0; person 5 0; worth own * 9 + (not own) * (coins = 50) * 8 + 1;");
        // LOT 0: 10, 1; LOT 1: 9, 5 of 10
        is("10 and 5", 15, () -> less.given(-1));
        is("0 to 0", 0, () -> less.given(0));
        is("1 to 1", 1, () -> less.given(1));
        WatchLots more = Checks.of("person 9 1; person 9 0; person 9 0; person 9 1; person 9 0; worth 5;");
        is("three LOTS, five who bid", 15, () -> more.given(-1));
        is("no LOT", -1, () -> more.given(0));
        is("the least three", 0, () -> more.given(1));
        is("in their order", 1, () -> more.given(2));
        is("2", 2, () -> more.given(4));
        WatchLots swap = Checks.of("person 50 0; person 5 0; worth own * 3 + (not own) * 9;");
        // LOT 0: 3, 5; LOT 1: 9, 3
        is("5 and 9", 14, () -> swap.given(-1));
        is("0 to 1", 1, () -> swap.given(0));
        is("1 to 0", 0, () -> swap.given(1));
        checks.noSuch("given 2", () -> swap.given(2));
        checks.noSuch("given -2", () -> swap.given(-2));
        checks.noSuch("given far", () -> swap.given(Integer.MIN_VALUE));
    }

    private void givenToNobody() {
        WatchLots one = Checks.of("person 0 0; person 0 0; person 8 1; person 0 0; worth 5;");
        is("one who bids", 5, () -> one.given(-1));
        is("the first LOT", 2, () -> one.given(0));
        is("nobody has the second", -1, () -> one.given(1));
        is("no LOT", -1, () -> one.given(2));
        is("nobody has the last", -1, () -> one.given(3));
        WatchLots late = Checks.of("person 0 0; person 3 0; person 8 1; worth 5 + (theirs = 3) * 2;");
        // LOT 0: 0, 3, 5; LOT 1: 0, 3, 7
        is("3 and 7", 10, () -> late.given(-1));
        is("0 to 1", 1, () -> late.given(0));
        is("1 to 2", 2, () -> late.given(1));
        WatchLots second = Checks.of("person 0 0; person 0 0; person 8 1; worth 5 + knows * 2;");
        is("one for two LOTS: the first", 2, () -> second.given(0));
        is("and nobody", -1, () -> second.given(1));
        WatchLots none = Checks.of("person 0 0; person 9 1; worth 0;");
        is("no bid above 0", 0, () -> none.given(-1));
        is("nobody", -1, () -> none.given(0));
        WatchLots dark = Checks.of("person 9 1; person 9 2;");
        is("no LOT at all", 0, () -> dark.given(-1));
        is("none of 0", -1, () -> dark.given(0));
        is("none of 1", -1, () -> dark.given(1));
        is("nobody at all", 0, () -> new WatchLots().given(-1));
        checks.noSuch("no PERSON", () -> new WatchLots().given(0));
    }

    /** As COINS are now; neither RESERVE nor the PRICE matters; in FOG there are none. */
    private void givenAsCoinsAre() {
        WatchLots x = Checks.of("person 30 0; person 30 0; reserve 99; worth coins + lots;");
        is("30 and 30", 60, () -> x.given(-1));
        x.earn(0, 9);
        is("39 and 30", 69, () -> x.given(-1));
        x.bribe(1);
        is("one LOT alone", 39, () -> x.given(-1));
        is("0 has one's own", 0, () -> x.given(0));
        is("no LOT of who is BRIBING", -1, () -> x.given(1));
        x.nights(1);
        is("both again", 39 + 25, () -> x.given(-1));
        WatchLots fog = Checks.of("fog 7 6; person 30 0; worth 9;");
        is("in FOG", 0, () -> fog.given(-1));
        fog.nights(1);
        is("in thin FOG", 9, () -> fog.given(-1));
    }

    /** A WARD in which each KNOWS those with one COIN more, behind a NIGHT. */
    private static WatchLots chain(int... coins) {
        StringBuilder text = new StringBuilder("reserve 0; worth (theirs = coins + 1) * 9;");
        for (int has : coins) {
            text.append("person ").append(has).append(" 0;");
        }
        WatchLots x = Checks.of(text.toString());
        x.nights(1);
        return x;
    }

    /** PEOPLE of whom one could hear from now: whom one KNOWS, whom those KNOW, and so on. */
    private void gossips() {
        WatchLots two = chain(10, 11, 20, 21);
        is("0 KNOWS 1", 2, () -> two.person(0, 2));
        is("2 KNOWS 3", 8, () -> two.person(2, 2));
        is("gossip 0", 2, () -> two.gossip(0));
        is("gossip 1", 0, () -> two.gossip(1));
        is("gossip 2", 8, () -> two.gossip(2));
        is("gossip 3", 0, () -> two.gossip(3));
        // 0 KNOWS 1, 1 KNOWS 3; then 0 KNOWS 2, 2 KNOWS 3
        WatchLots both = chain(10, 11, 30, 12);
        both.earn(0, 19);
        both.earn(3, 19);
        both.nights(1);
        is("0 KNOWS 1 and 2", 6, () -> both.person(0, 2));
        is("1 KNOWS 3", 8, () -> both.person(1, 2));
        is("2 KNOWS 3", 8, () -> both.person(2, 2));
        is("gossip 0 of all", 14, () -> both.gossip(0));
        is("gossip 1", 8, () -> both.gossip(1));
        is("unknown 3", 1, () -> both.unknown(3));
        is("unknown 1", 12, () -> both.unknown(1));
        is("unknown 0", 14, () -> both.unknown(0));
        is("famous", 3, () -> both.most(0));
    }

    private void gossipChain() {
        WatchLots up = chain(10, 11, 12, 13, 14, 15, 16);
        WatchLots down = chain(16, 15, 14, 13, 12, 11, 10);
        for (int who = 0; who < 7; who++) {
            int p = who;
            is("KNOWS the next " + who, who < 6 ? 2 << who : 0, () -> up.person(p, 2));
            is("hears of all behind " + who, 127 & ~((2 << who) - 1), () -> up.gossip(p));
            is("KNOWS the one ahead " + who, (1 << who) / 2, () -> down.person(p, 2));
            is("hears of all ahead " + who, (1 << who) - 1, () -> down.gossip(p));
            int others = 127 & ~(1 << who);
            is("unknown " + who, others & ~((1 << who) / 2), () -> up.unknown(p));
            is("unknown of down " + who, others & ~(2 << who), () -> down.unknown(p));
        }
        // in a ring one hears of oneself, who isn't of it
        WatchLots ring = chain(10, 11, 12);
        ring.earn(2, 97);
        ring.earn(0, 99);
        ring.earn(0, 1);
        ring.nights(1);
        is("2 KNOWS 0", 1, () -> ring.person(2, 2));
        is("gossip 0", 6, () -> ring.gossip(0));
        is("gossip 1", 5, () -> ring.gossip(1));
        is("gossip 2", 3, () -> ring.gossip(2));
    }

    /** FAMOUS: who is KNOWN by most (of like ones the least); none. */
    private void famous() {
        is("nobody", -1, () -> new WatchLots().most(0));
        WatchLots none = Checks.of("person 9 1; person 9 2;");
        is("nobody KNOWN: of like ones the least", 0, () -> none.most(0));
        WatchLots like = chain(10, 11, 20, 21);
        is("1 and 3 by one each", 1, () -> like.most(0));
        WatchLots last = chain(11, 1, 1, 1, 1, 1, 12);
        is("6 by 0", 6, () -> last.most(0));
        checks.noSuch("most 2", () -> last.most(2));
        checks.noSuch("most -1", () -> last.most(-1));
        checks.noSuch("most of nobody 2", () -> new WatchLots().most(2));
    }

    /** RICHEST now (of like ones the least); none. */
    private void richest() {
        is("nobody", -1, () -> new WatchLots().most(1));
        int[][] rows = {{0, 0, 0, 0}, {0, 0, 1, 2}, {5, 5, 4, 0}, {4, 5, 5, 1}, {998, 999, 999, 1}, {3, 2, 1, 0}};
        for (int[] r : rows) {
            WatchLots x = Checks.of("person " + r[0] + " 1; bishop " + r[1] + " 1; person " + r[2] + " 1;");
            is("RICHEST of " + r[0] + " " + r[1] + " " + r[2], r[3], () -> x.most(1));
        }
        WatchLots x = Checks.of("person 9 1; person 9 1;");
        x.earn(1, 1);
        is("now", 1, () -> x.most(1));
        x.undo();
        is("UNDONE", 0, () -> x.most(1));
    }

    /** HOURS of the NIGHT that comes in which the watch is in a STREET. */
    private void lanterns() {
        WatchLots x = Checks.of("streets 8; round 0 1 2 3 4 5 6 7; fog 9;");
        for (int night = 0; night < 5; night++) {
            for (int street = 0; street < 8; street++) {
                int hour = Math.floorMod(street - 6 * night, 8);
                int s = street;
                is("lantern " + s + " of NIGHT " + night, hour < 6 ? 1 << hour : 0, () -> x.lantern(s));
            }
            x.nights(1);
        }
        WatchLots one = Checks.of("round 3;");
        is("all HOURS", 63, () -> one.lantern(3));
        is("no HOUR", 0, () -> one.lantern(0));
    }

    /** HOURS in which both are in one STREET, as WALKS are now. */
    private void meeting() {
        WatchLots x = Checks.of("streets 8; fog 9; person 9 0 1; person 9 0 1 2; person 9 5 1 0 1 0 1; person 9 7;");
        // 0: 0 1 0 1 0 1; 1: 0 1 2 0 1 2; 2: 5 1 0 1 0 1
        is("0 and 1", 3, () -> x.meet(0, 1));
        is("1 and 0", 3, () -> x.meet(1, 0));
        is("0 and 2", 62, () -> x.meet(0, 2));
        is("1 and 2", 2, () -> x.meet(1, 2));
        is("none", 0, () -> x.meet(0, 3));
        for (int who = 0; who < 4; who++) {
            int p = who;
            is("with oneself", 63, () -> x.meet(p, p));
        }
        x.wander(3, 0, 5);
        is("as WALKS are now", 1, () -> x.meet(2, 3));
        x.bribe(2);
        is("BRIBING or not", 1, () -> x.meet(3, 2));
    }

    /** How much one pays for LOTS in so many NIGHTS, all together. */
    private void spending() {
        WatchLots x = Checks.of("person 900 1;" + "person 0 0;".repeat(6) + "worth 9; reserve 4;");
        for (int nights = 0; nights <= 40; nights++) {
            int n = nights;
            is("six LOTS by 4 each NIGHT", Math.min(900, 24 * n), () -> x.spends(0, n));
            is("nothing", 0, () -> x.spends(6, n));
        }
        WatchLots own = Checks.of("person 60 0; reserve 30;");
        is("for one's own too", 30, () -> own.spends(0, 1));
        is("twice", 60, () -> own.spends(0, 2));
        is("and no more", 60, () -> own.spends(0, 40));
        own.nights(1);
        is("from now", 30, () -> own.spends(0, 40));
        WatchLots bribing = Checks.of("person 60 1; person 0 0; reserve 30;");
        bribing.bribe(0);
        is("a bribe isn't for LOTS", 30, () -> bribing.spends(0, 1));
        is("nothing by whom is sold", 0, () -> bribing.spends(1, 40));
    }

    /** Others who don't KNOW a PERSON. */
    private void strangers() {
        for (int many = 1; many <= 7; many++) {
            WatchLots x = Checks.of("person 9 1;".repeat(many));
            int all = (1 << many) - 1;
            for (int who = 0; who < many; who++) {
                int p = who;
                is("all others of " + all, all & ~(1 << who), () -> x.unknown(p));
            }
        }
        WatchLots one = chain(10, 11);
        is("0 KNOWS 1", 0, () -> one.unknown(1));
        is("1 doesn't KNOW 0", 2, () -> one.unknown(0));
    }
}
