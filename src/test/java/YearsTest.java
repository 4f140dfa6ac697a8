import java.util.function.IntSupplier;

/** YEARS by a seed: which DRAWS are made, in which order, and what each of them does. */
final class YearsTest {
    private static final int[] SEEDS = {0, 1, -1, 5, 12345, Integer.MAX_VALUE, Integer.MIN_VALUE, Integer.MIN_VALUE + 1,
        1103515245, -1103515245, 65535, 65536, -65536, 987654321, -987654321};

    private final Checks checks = new Checks();
    private long seed = 0;

    private YearsTest() {
    }

    public static void main(String[] args) {
        YearsTest test = new YearsTest();
        test.refusals();
        test.noNights();
        test.nobody();
        test.earnsTwenty();
        test.earnsToTheMost();
        test.wanders();
        test.fogIsDrawn();
        test.bribingInTheFirst();
        test.fromNowOn();
        test.allForDark();
        test.allForSale();
        test.changesNothing();
        test.checks.end();
    }

    private void is(String what, int want, IntSupplier call) {
        checks.is(what, want, call);
    }

    /** A seed's low 32 bits, as a long that doesn't wrap. */
    private int draw(int many) {
        seed = seed * 1103515245L + 12345L & 0xffffffffL;
        return (int) ((seed / 65536 & 0x7fff) % many);
    }

    private void start(int from) {
        seed = from & 0xffffffffL;
    }

    private void refusals() {
        WatchLots x = Checks.of("person 9 0;");
        for (int bad : new int[] {-1, 41, 42, Integer.MIN_VALUE, Integer.MAX_VALUE}) {
            for (int what = 0; what < 3; what++) {
                int w = what;
                checks.illegal("n " + bad, () -> x.years(7, bad, w));
            }
            checks.noSuch("what 3 ahead of " + bad, () -> x.years(7, bad, 3));
            checks.noSuch("what -1 ahead of " + bad, () -> x.years(7, bad, -1));
        }
        for (int n : new int[] {0, 1, 40}) {
            checks.noSuch("what 3", () -> x.years(7, n, 3));
            checks.noSuch("what -1", () -> x.years(7, n, -1));
            checks.due("n " + n, false, Checks.answer(() -> x.years(7, n, 2)).startsWith("throws"));
        }
    }

    /** n NIGHTS (0 to 40): none. */
    private void noNights() {
        WatchLots x = Checks.of("person 9 0; person 8 0; reserve 50;");
        x.nights(2);
        for (int from : SEEDS) {
            is("none sold", 0, () -> x.years(from, 0, 0));
            is("DARK is as now", 4, () -> x.years(from, 0, 1));
            is("COINS are as now", 17, () -> x.years(from, 0, 2));
        }
    }

    /** Without PEOPLE just DRAWS of 4 and 10 are made. */
    private void nobody() {
        WatchLots x = new WatchLots();
        for (int from : SEEDS) {
            for (int n : new int[] {0, 1, 2, 39, 40}) {
                for (int what = 0; what < 3; what++) {
                    int w = what;
                    is("nobody, " + from + ", " + n, 0, () -> x.years(from, n, w));
                }
            }
        }
    }

    /** 0 a DRAW of PEOPLE EARNS 20. */
    private void earnsTwenty() {
        int[] found = new int[4];
        for (int from = -200; from < 200; from++) {
            WatchLots x = Checks.of("person 9 1 2; person 8 1; person 7 2; reserve 99;");
            start(from);
            int event = draw(4);
            found[event]++;
            int by = from;
            if (event != 1) {
                is("COINS of all by " + from, event == 0 ? 44 : 24, () -> x.years(by, 1, 2));
                is("nobody in the DARK", 0, () -> x.years(by, 1, 1));
            }
        }
        for (int many : found) {
            checks.due("each event comes often enough", true, many > 50);
        }
    }

    /** 999 at most. */
    private void earnsToTheMost() {
        for (int from = 0; from < 60; from++) {
            start(from);
            int event = draw(4);
            for (int coins : new int[] {978, 979, 980, 998, 999}) {
                WatchLots x = Checks.of("person " + coins + " 1 1 1; reserve 99; worth 0;");
                int by = from;
                int due = event == 0 ? Math.min(999, coins + 20) : coins;
                is(coins + " by " + from, due, () -> x.years(by, 1, 2));
            }
        }
    }

    /** 1 a DRAW of PEOPLE's WALK at a DRAW of its places is a DRAW of STREETS; the next NIGHT has it too. */
    private void wanders() {
        int[] places = {1, 3, 6};
        int found = 0;
        for (int from = 0; from < 600; from++) {
            start(from);
            if (draw(4) == 1) {
                draw(places[draw(3)]);
                boolean isThere = draw(5) == 4;
                int first = draw(10) < 7 && isThere ? 1 : 0;
                int by = from;
                WatchLots x = Checks.of("streets 5; round 4; person 0 0; person 0 0 0 0; person 0 0 0 0 0 0 0;");
                is("DARK by " + from, first, () -> x.years(by, 1, 1));
                if (draw(4) > 1) {
                    int both = draw(10) < 7 && isThere ? first + 1 : first;
                    is("DARK of two by " + from, both, () -> x.years(by, 2, 1));
                    found += both;
                }
            }
        }
        checks.due("often enough", true, found > 10);
    }

    /** Then FOG of the NIGHT is a DRAW of 10, whatever the WARD's is. */
    private void fogIsDrawn() {
        int[] found = new int[10];
        for (int fog : new int[] {0, 6, 7, 9}) {
            WatchLots x = Checks.of("fog " + fog + "; person 20 0; reserve 0;");
            for (int from = 0; from < 200; from++) {
                start(from);
                if (draw(4) > 1) {
                    int drawn = draw(10);
                    found[drawn]++;
                    int by = from;
                    is("FOG " + drawn + " by " + from, drawn < 7 ? 1 : 0, () -> x.years(by, 1, 0));
                }
            }
        }
        for (int many : found) {
            checks.due("each FOG comes", true, many > 10);
        }
    }

    /** Who is BRIBING isn't SEEN in the first of these NIGHTS. */
    private void bribingInTheFirst() {
        WatchLots x = Checks.of("streets 2; round 0 1; person 25 0 1; reserve 0; worth 9;");
        WatchLots y = Checks.of("streets 2; round 0 1; person 25 0 1; reserve 0; worth 9;");
        x.bribe(0);
        for (int from = 0; from < 100; from++) {
            start(from);
            if (draw(4) > 1) {
                boolean isThin = draw(10) < 7;
                int by = from;
                is("BRIBING by " + from, 0, () -> x.years(by, 1, 0));
                is("one LOT less by " + from, y.years(by, 2, 0) - (isThin ? 1 : 0), () -> x.years(by, 2, 0));
            }
        }
    }

    /** From now on: with the NIGHT, COINS, WALKS, RESERVE and DARK as they are. */
    private void fromNowOn() {
        // the watch is in 1 in all HOURS of NIGHT 1 alone (of three)
        WatchLots x = Checks.of("streets 3; round 0 0 0 0 0 0 1 1; person 20 1; reserve 3; worth 9;");
        for (int from = 0; from < 40; from++) {
            start(from);
            if (draw(4) > 1) {
                boolean isThin = draw(10) < 7;
                int by = from;
                is("none in NIGHT 0", 0, () -> x.years(by, 1, 0));
                x.nights(1);
                is("in NIGHT 1", isThin ? 1 : 0, () -> x.years(by, 1, 0));
                is("COINS of it", isThin ? 17 : 20, () -> x.years(by, 1, 2));
                x.reserve(30);
                is("none for 30", 0, () -> x.years(by, 1, 0));
                is("but one in the DARK", isThin ? 1 : 0, () -> x.years(by, 1, 1));
                x.wander(0, 0, 2);
                is("none in 2", 0, () -> x.years(by, 1, 1));
                x.undo();
                x.nights(1);
                is("DARK as now and on", 1, () -> x.years(by, 0, 1));
                x.undo();
                x.undo();
                x.undo();
            }
        }
        WatchLots last = Checks.of("person 20 0; reserve 99;");
        for (int i = 0; i < 49; i++) {
            last.nights(20);
        }
        last.nights(19);
        checks.due("behind NIGHT 999", true, last.years(3, 40, 1) > 999);
    }

    /** Nobody has RESERVE: each who is SEEN goes to the DARK. */
    private void allForDark() {
        for (int from : SEEDS) {
            simulate(from, "reserve 99;", false);
        }
    }

    /** Each bids for one's own alone, for nothing: each who is SEEN is sold. */
    private void allForSale() {
        for (int from : SEEDS) {
            simulate(from, "reserve 0; worth own;", true);
        }
    }

    private void simulate(int from, String rest, boolean isSold) {
        int[][] walks = {{0, 3}, {4, 4, 2}, {1}, {2, 1, 0, 3, 4, 0}};
        WatchLots x = Checks.of("streets 5; round 0 1 2 3 4 0 1;" + rest
                + "person 9 0 3; person 8 4 4 2; person 7 1; person 6 2 1 0 3 4 0;");
        int[] round = {0, 1, 2, 3, 4, 0, 1};
        start(from);
        int lots = 0;
        int coins = 30;
        for (int night = 0; night < 40; night++) {
            int event = draw(4);
            if (event == 0) {
                draw(4);
                coins += 20;
            }
            if (event == 1) {
                int[] walk = walks[draw(4)];
                int place = draw(walk.length);
                walk[place] = draw(5);
            }
            boolean isThin = draw(10) < 7;
            for (int[] walk : walks) {
                boolean isSeen = false;
                for (int hour = 0; hour < 6; hour++) {
                    isSeen |= round[(6 * night + hour) % 7] == walk[hour % walk.length];
                }
                lots += isThin && isSeen ? 1 : 0;
            }
            int n = night + 1;
            int due = lots;
            int all = coins;
            is("sold in " + n + " by " + from, isSold ? due : 0, () -> x.years(from, n, 0));
            is("DARK in " + n + " by " + from, isSold ? 0 : due, () -> x.years(from, n, 1));
            is("COINS in " + n + " by " + from, all, () -> x.years(from, n, 2));
        }
    }

    private void changesNothing() {
        WatchLots x = Checks.of("person 9 0; person 50 1;");
        x.bribe(0);
        x.tell(0, 1, false);
        for (int from : SEEDS) {
            int due = x.years(from, 40, 2);
            is("the same again", due, () -> x.years(from, 40, 2));
            is("NIGHT", 0, () -> x.count(4));
            is("COINS", 54, () -> x.count(9));
            is("BRIBING", 1, () -> x.count(8));
            is("WALK", 0, () -> x.walk(0, 0));
            is("ACTS", 1, () -> x.count(10));
            is("DARK", 0, () -> x.count(7));
            is("KNOWS", 0, () -> x.person(1, 2));
        }
    }
}
