import java.util.function.IntSupplier;

/** What is TOLD, OTHERWISE, LOOK NEXT, a GAME and the IMAGE, sentence by sentence and at their bounds. */
final class TellTest {
    // SEEN in NIGHT 11 alone of the first 40: 6 by 11 MOD 7 is 3, 11 MOD 8 is 3; in NIGHT 3 it is 4
    private static final String TWELFTH = "round 0 0 0 1 0 0 0; fog 9 9 9 0 9 9 9 9; person 9 1 2 2 2 2 2;";

    private final Checks checks = new Checks();

    private TellTest() {
    }

    public static void main(String[] args) {
        TellTest test = new TellTest();
        test.toldBounds();
        test.eightAreTold();
        test.toldOfWhichNight();
        test.toldOfWhom();
        test.otherwiseAll();
        test.otherwiseLast();
        test.otherwiseIsFromNow();
        test.otherwiseBribing();
        test.lookAtAll();
        test.lookAtTheFirst();
        test.lookAtNone();
        test.lookByTheseAlone();
        test.forgotten();
        test.gameChoices();
        test.gameByCoins();
        test.gameBribing();
        test.gameBuyers();
        test.gamePays();
        test.gameRefusals();
        test.noImage();
        test.imageKeeps();
        test.imageLeaves();
        test.imageAgain();
        test.imageIsGone();
        test.checks.end();
    }

    private void is(String what, int want, IntSupplier call) {
        checks.is(what, want, call);
    }

    /** In the k-th NIGHT (1 to 12): NONE (STATUS 2). */
    private void toldBounds() {
        for (int k : new int[] {-1, 0, 1, 2, 11, 12, 13, 14, 40, Integer.MIN_VALUE, Integer.MAX_VALUE}) {
            for (boolean seen : new boolean[] {true, false}) {
                WatchLots x = Checks.of("person 9 0;");
                boolean can = k >= 1 && k <= 12;
                is("tell " + k, can ? 1 : -1, () -> x.tell(0, k, seen));
                is("TOLD", can ? 1 : 0, () -> x.count(11));
                is("STATUS 2", can ? 0 : 1, () -> x.count(15));
                is("STATUS 1", 0, () -> x.count(14));
                is("so it is", can && !seen ? 0 : 1, () -> x.otherwise(2));
                checks.noSuch("no PERSON ahead of " + k, () -> x.tell(1, k, seen));
                checks.noSuch("no PERSON -1 ahead of " + k, () -> x.tell(-1, k, seen));
                is("not counted", can ? 0 : 1, () -> x.count(15));
                is("nor TOLD", can ? 1 : 0, () -> x.count(11));
            }
        }
    }

    /** TOLD (at most 8): NONE (STATUS 2), if there are 8. */
    private void eightAreTold() {
        WatchLots x = Checks.of("person 9 0; person 9 1;");
        for (int i = 1; i <= 8; i++) {
            int many = i;
            is("tell " + i, many, () -> x.tell(0, many, true));
        }
        is("so it is", 1, () -> x.otherwise(2));
        is("the ninth", -1, () -> x.tell(1, 1, true));
        is("STATUS 2", 1, () -> x.count(15));
        is("the ninth and no such NIGHT", -1, () -> x.tell(1, 0, true));
        is("STATUS 2", 2, () -> x.count(15));
        checks.noSuch("the ninth of nobody", () -> x.tell(2, 1, true));
        is("STATUS 2", 2, () -> x.count(15));
        is("eight", 8, () -> x.count(11));
        is("so it is still", 1, () -> x.otherwise(2));
        x.forget();
        for (int i = 1; i <= 7; i++) {
            x.tell(0, i, true);
        }
        is("the eighth", 8, () -> x.tell(1, 12, true));
        is("it counts as the first does", 0, () -> x.otherwise(2));
    }

    private void toldOfWhichNight() {
        for (int k = 1; k <= 12; k++) {
            WatchLots x = Checks.of(TWELFTH);
            x.tell(0, k, true);
            int night = k;
            is("SEEN in " + night, night == 12 ? 1 : 0, () -> x.otherwise(2));
            x.forget();
            x.tell(0, k, false);
            is("not SEEN in " + night, night == 12 ? 0 : 1, () -> x.otherwise(2));
            x.nights(1);
            is("by now", night == 11 ? 0 : 1, () -> x.otherwise(2));
            x.undo();
            is("UNDONE", night == 12 ? 0 : 1, () -> x.otherwise(2));
        }
    }

    private void toldOfWhom() {
        for (int told = 0; told < 7; told++) {
            StringBuilder text = new StringBuilder();
            for (int who = 0; who < 7; who++) {
                text.append("person 9 ").append(who == told ? "0;" : "1;");
            }
            for (int who = 0; who < 7; who++) {
                WatchLots x = Checks.of(text.toString());
                x.tell(who, 1, true);
                int due = who == told ? 1 : 0;
                is("SEEN is " + told + ", TOLD of " + who, due, () -> x.otherwise(2));
                // one who isn't SEEN must go to 0; else any other one may go anywhere, and the one told of stays
                int p = who;
                is("how many", due == 1 ? 18 : 1, () -> x.otherwise(0));
                int first = told == 0 ? 100 : 0;
                is("the first", due == 1 ? first : 100 * p, () -> x.otherwise(1));
            }
        }
    }

    /** PEOPLE, places of their WALKS and other STREETS: how many; the first. */
    private void otherwiseAll() {
        is("nobody", 0, () -> new WatchLots().otherwise(0));
        is("no first", -1, () -> new WatchLots().otherwise(1));
        is("nothing is TOLD", 1, () -> new WatchLots().otherwise(2));
        for (int streets = 2; streets <= 8; streets++) {
            for (int length = 1; length <= 6; length++) {
                String text = "streets " + streets + ";" + ("person 9" + " 0".repeat(length) + ";").repeat(7);
                WatchLots x = Checks.of(text);
                int due = 7 * length * (streets - 1);
                is("all of " + text, due, () -> x.otherwise(0));
                is("the first of " + text, 1, () -> x.otherwise(1));
            }
        }
        WatchLots from1 = Checks.of("streets 2; person 9 1;");
        is("to 0", 0, () -> from1.otherwise(1));
        is("one", 1, () -> from1.otherwise(0));
        checks.noSuch("otherwise 3", () -> from1.otherwise(3));
        checks.noSuch("otherwise -1", () -> from1.otherwise(-1));
    }

    /** 100 by who, 10 by the place, and the STREET. */
    private void otherwiseLast() {
        // place 5 alone meets the watch in NIGHT 0 (HOUR 5: STREET 7) and in NIGHT 1 (HOUR 5: 7 again)
        String text = "streets 8; round 0 1 2 7 3 7 4 5;" + "person 9 6 6 6 6 6 6;".repeat(7);
        for (int who = 0; who < 7; who++) {
            WatchLots x = Checks.of(text);
            int p = who;
            x.tell(who, 1, true);
            x.tell(who, 2, true);
            is("not without", 0, () -> x.otherwise(2));
            is("one", 1, () -> x.otherwise(0));
            is("place 5 in STREET 7", 100 * p + 57, () -> x.otherwise(1));
            is("NIGHT 1 is as good as any", 1, () -> x.look(0));
            is("of one kind", 1, () -> x.look(1));
            x.wander(who, 5, 7);
            is("so it is now", 1, () -> x.otherwise(2));
            is("how many others", 6 * 6 * 7 + 5 * 7, () -> x.otherwise(0));
            is("the first", 0, () -> x.otherwise(1));
        }
    }

    /** Were it so now: by WALKS, FOG and the NIGHT as they are. */
    private void otherwiseIsFromNow() {
        WatchLots x = Checks.of("fog 0 9; person 9 0;");
        x.tell(0, 1, true);
        x.tell(0, 2, false);
        is("so it is in NIGHT 0", 1, () -> x.otherwise(2));
        x.nights(1);
        is("not in NIGHT 1", 0, () -> x.otherwise(2));
        is("nor by any other WALK", 0, () -> x.otherwise(0));
        is("no first", -1, () -> x.otherwise(1));
        x.nights(1);
        is("so it is in NIGHT 2", 1, () -> x.otherwise(2));
        is("but by no other WALK", 0, () -> x.otherwise(0));
        x.wander(0, 0, 3);
        is("not from STREET 3", 0, () -> x.otherwise(2));
        is("0 again", 1, () -> x.otherwise(0));
        is("to STREET 0", 0, () -> x.otherwise(1));
    }

    private void otherwiseBribing() {
        WatchLots x = Checks.of("person 9 0; person 9 0;");
        x.tell(0, 1, false);
        is("0 is SEEN", 0, () -> x.otherwise(2));
        x.bribe(0);
        is("not if BRIBING", 1, () -> x.otherwise(2));
        is("wherever anybody is", 6, () -> x.otherwise(0));
        x.forget();
        x.tell(0, 2, false);
        is("SEEN in the next", 0, () -> x.otherwise(2));
    }

    /** How many unlike ones: each of seven is SEEN in one of three STREETS, by whichever of them are. */
    private void lookAtAll() {
        for (int base = 0; base < 128; base++) {
            StringBuilder text = new StringBuilder("streets 3;");
            for (int who = 0; who < 7; who++) {
                text.append("person 9 ").append((base >> who & 1) == 1 ? "0;" : "1;");
            }
            WatchLots x = Checks.of(text.toString());
            // all are SEEN: each may hide alone; else one may also go from 1 to 2
            int due = base == 127 ? 7 : 8;
            is("unlike ones by " + base, due, () -> x.look(1));
            is("in the first NIGHT " + base, 1, () -> x.look(0));
        }
    }

    /** The NIGHT (1 to 12; of like ones the first). */
    private void lookAtTheFirst() {
        for (int k = 1; k <= 8; k++) {
            StringBuilder fog = new StringBuilder("fog");
            for (int i = 1; i <= 8; i++) {
                fog.append(i == k ? " 0" : " 9");
            }
            WatchLots x = Checks.of(fog + "; person 9 0; person 9 1;");
            int night = k;
            is("the first thin one", night, () -> x.look(0));
            is("0 away, 1 too, or both", 3, () -> x.look(1));
        }
        // in NIGHT 11 alone one is SEEN in STREET 1, in NIGHT 3 in 0: both are unlike in two ways
        WatchLots x = Checks.of(TWELFTH);
        is("NIGHT 3 is the first", 4, () -> x.look(0));
        x.tell(0, 4, false);
        is("then the 12th", 12, () -> x.look(0));
        is("SEEN or not", 2, () -> x.look(1));
        x.nights(1);
        x.forget();
        x.tell(0, 3, false);
        is("the 11th by now", 11, () -> x.look(0));
        x.undo();
        x.forget();
        x.tell(0, 4, false);
        x.tell(0, 12, false);
        is("unlike in none: the first", 1, () -> x.look(0));
        is("one kind", 1, () -> x.look(1));
        // one is SEEN in the 13th alone (NIGHT 12: 72 MOD 7 is 2, 12 MOD 8 is 4; NIGHT 4 is 3)
        WatchLots y = Checks.of("round 0 0 1 0 0 0 0; fog 9 9 9 9 0 9 9 9; person 9 1 2 2 2 2 2;");
        y.tell(0, 5, false);
        is("not the 13th", 1, () -> y.look(0));
        is("one kind in 12", 1, () -> y.look(1));
        y.nights(1);
        y.forget();
        y.tell(0, 4, false);
        is("the 12th by now", 12, () -> y.look(0));
        is("SEEN or not in it", 2, () -> y.look(1));
    }

    /** None without any. */
    private void lookAtNone() {
        is("nobody", -1, () -> new WatchLots().look(0));
        is("no kind", 0, () -> new WatchLots().look(1));
        WatchLots x = Checks.of("person 9 0; fog 9;");
        x.tell(0, 1, true);
        is("never so", -1, () -> x.look(0));
        is("no kind", 0, () -> x.look(1));
        WatchLots fog = Checks.of("person 9 0; fog 9;");
        is("always alike", 1, () -> fog.look(0));
        is("one kind", 1, () -> fog.look(1));
        checks.noSuch("look 2", () -> x.look(2));
        checks.noSuch("look -1", () -> x.look(-1));
    }

    /** LOTS by these: not as it is without. */
    private void lookByTheseAlone() {
        WatchLots x = Checks.of("streets 2; person 9 0;");
        is("away alone", 1, () -> x.look(1));
        WatchLots y = Checks.of("streets 2; person 9 0; person 9 1;");
        is("one of both", 2, () -> y.look(1));
    }

    private void forgotten() {
        WatchLots x = Checks.of("person 9 0;");
        x.forget();
        is("nothing was TOLD", 0, () -> x.count(11));
        x.tell(0, 1, false);
        x.tell(0, 13, false);
        x.forget();
        is("none", 0, () -> x.count(11));
        is("STATUS stays", 1, () -> x.count(15));
        is("so it is", 1, () -> x.otherwise(2));
        is("from 1 again", 1, () -> x.tell(0, 1, false));
        is("no ACT", -1, x::undo);
    }

    private void game(String text, int many, int first) {
        WatchLots x = Checks.of(text);
        is("resting in " + text, many, () -> x.game(0, 1, 0));
        is("the first in " + text, first, () -> x.game(0, 1, 1));
        int turned = first < 0 ? -1 : first % 10 * 10 + first / 10;
        if (many == 1) {
            is("turned, " + text, 1, () -> x.game(1, 0, 0));
            is("the first turned, " + text, turned, () -> x.game(1, 0, 1));
        }
        is("nothing has changed", 0, () -> x.count(8) + x.count(4) + x.count(10) + x.count(14));
    }

    /** Each BRIBES or not: each loses 5 by it, and 10, if somebody else is the BUYER of one's LOT. */
    private void gameChoices() {
        String buyer = "person 99 1; worth (not own) * 9;";
        game("person 10 0; person 10 0;" + buyer, 1, 11);
        game("person 10 0; person 10 1;" + buyer, 1, 10);
        game("person 10 1; person 10 0;" + buyer, 1, 1);
        game("person 10 1; person 10 1;" + buyer, 1, 0);
        game("fog 7; person 10 0; person 10 0;" + buyer, 1, 0);
        game("fog 6; person 10 0; person 10 0;" + buyer, 1, 11);
        // two LOTS are bought, one alone isn't: one of both BRIBES, and either rests
        game("person 10 0; person 10 0; person 99 1; worth (lots = 2) * (not own) * 9;", 2, 1);
        // one LOT alone is bought: none BRIBES, and both (for the other one would be bought)
        game("person 10 0; person 10 0; person 99 1; worth (lots = 1) * (not own) * 9;", 2, 0);
        // 0 is bought when both are SEEN, 1 when alone is
        game("person 10 0; person 12 0; person 99 1;"
                + "worth (theirs < 12 and lots = 2 or theirs = 12 and lots = 1) * (not own) * 50;", 0, -1);
    }

    /** If one has the COINS: who hasn't 5 has 0 alone. */
    private void gameByCoins() {
        String buyer = "person 99 1; worth (not own) * 9;";
        game("person 4 0; person 4 0;" + buyer, 1, 0);
        game("person 5 0; person 4 0;" + buyer, 1, 10);
        game("person 4 0; person 5 0;" + buyer, 1, 1);
        game("person 5 0; person 5 0;" + buyer, 1, 11);
        game("person 0 0; person 999 0;" + buyer, 1, 1);
        // who isn't SEEN loses by a bribe, whatever the other one has
        game("person 5 1; person 4 0;" + buyer, 1, 0);
        game("person 4 0; person 5 1;" + buyer, 1, 0);
        game("person 5 1; person 5 0;" + buyer, 1, 1);
        game("person 5 0; person 5 1;" + buyer, 1, 10);
    }

    /** Who is BRIBING already has 0 alone. */
    private void gameBribing() {
        String text = "person 50 0; person 50 0; person 99 1; worth (not own) * 9;";
        WatchLots x = Checks.of(text);
        x.bribe(0);
        is("0 is BRIBING", 1, () -> x.game(0, 1, 0));
        is("1 does too", 1, () -> x.game(0, 1, 1));
        is("turned", 10, () -> x.game(1, 0, 1));
        x.bribe(1);
        is("both are", 1, () -> x.game(0, 1, 0));
        is("nothing more", 0, () -> x.game(0, 1, 1));
        x.nights(1);
        is("both may again", 11, () -> x.game(0, 1, 1));
        WatchLots third = Checks.of("person 50 0; person 50 0; person 99 0; worth (not own) * 9;");
        third.bribe(2);
        is("a third one's BRIBING stays", 11, () -> third.game(0, 1, 1));
    }

    /** Somebody else: not oneself, and nobody isn't somebody. */
    private void gameBuyers() {
        game("person 90 0; person 90 0;", 1, 0);
        game("person 9 0; person 9 0; reserve 10; worth 99;", 1, 0);
        // each buys the other one's
        game("person 90 0; person 90 0; worth (not own) * 50;", 1, 11);
        // 0 buys both: 30 for the own LOT, and 60 are left
        game("person 90 0; person 30 0; worth coins;", 1, 1);
        // 0 buys the own one, and has 40 of 50 left
        game("person 90 0; person 50 0; worth coins;", 1, 0);
    }

    /** Who BRIBES has 5 COINS less in the NIGHT that comes. */
    private void gamePays() {
        // 1 is bought by 0 for RESERVE 6, as long as 0 has 6; 0 isn't SEEN
        game("person 10 1; person 50 0; reserve 6; worth (not own) * 9;", 1, 1);
        // 0 is bought by 1, but for 1 has no 6 behind a bribe; 1 is bought by 0 in the same way
        game("person 10 0; person 10 0; reserve 6; worth (not own) * 9;", 2, 1);
    }

    /** NoSuchElementException: also another what. IllegalArgumentException (behind that): both are one. */
    private void gameRefusals() {
        WatchLots x = Checks.of("person 9 0; person 9 0;");
        for (int who = 0; who < 2; who++) {
            int p = who;
            for (int what = 0; what < 2; what++) {
                int w = what;
                checks.illegal("both are one", () -> x.game(p, p, w));
            }
            checks.noSuch("what 2 ahead", () -> x.game(p, p, 2));
            checks.noSuch("what -1 ahead", () -> x.game(p, p, -1));
        }
        for (int bad : new int[] {-1, 2, Integer.MAX_VALUE, Integer.MIN_VALUE}) {
            checks.noSuch("PERSON ahead", () -> x.game(bad, bad, 0));
            checks.noSuch("the first one", () -> x.game(bad, 0, 0));
            checks.noSuch("the other one", () -> x.game(0, bad, 0));
            checks.noSuch("what " + bad, () -> x.game(0, 1, bad));
        }
    }

    /** False: there is none. */
    private void noImage() {
        WatchLots x = Checks.of("person 9 0;");
        x.earn(0, 1);
        is("none", 0, () -> x.restore() ? 1 : 0);
        is("all is as it was", 10, () -> x.person(0, 0));
        is("an ACT", 1, () -> x.count(10));
    }

    /** All that NIGHTS and ACTS change, ACTS that are kept, what is TOLD, STATUS. */
    private void imageKeeps() {
        WatchLots x = Checks.of("streets 8; reserve 9;" + "person 40 0 1 2 3 4 5;".repeat(6)
                + "person 40 0 1 2 3 4 6;");
        x.nights(2);
        x.bribe(6);
        x.wander(6, 5, 7);
        x.earn(5, 3);
        x.reserve(8);
        x.earn(0, 0);
        x.tell(6, 12, false);
        x.tell(6, 13, false);
        x.image();
        int[] counts = new int[16];
        int[] knows = new int[7];
        int[] coins = new int[7];
        for (int i = 0; i < 16; i++) {
            counts[i] = x.count(i);
        }
        for (int i = 0; i < 7; i++) {
            coins[i] = x.person(i, 0);
            knows[i] = x.person(i, 2);
        }
        x.nights(20);
        x.bribe(0);
        x.wander(6, 5, 0);
        x.wander(0, 0, 7);
        x.earn(6, 50);
        x.reserve(99);
        x.reserve(100);
        x.forget();
        x.tell(0, 1, true);
        x.tell(0, 2, true);
        x.tell(0, 0, true);
        Checks.tell(x, "x");
        is("restore", 1, () -> x.restore() ? 1 : 0);
        for (int i = 0; i < 16; i++) {
            int what = i;
            is("count " + what, counts[what], () -> x.count(what));
        }
        for (int i = 0; i < 7; i++) {
            int who = i;
            is("COINS of " + who, coins[who], () -> x.person(who, 0));
            is("KNOWS of " + who, knows[who], () -> x.person(who, 2));
            is("WALK of " + who, who == 6 ? 7 : 5, () -> x.walk(who, 5));
            is("its first place " + who, 0, () -> x.walk(who, 0));
        }
        checks.due("some have changed", true, counts[4] == 2 && counts[8] == 64 && counts[10] == 5 && counts[14] == 1
                && counts[15] == 1 && counts[11] == 1 && counts[6] == 8);
        is("undo reserve", 4, x::undo);
        is("RESERVE", 9, () -> x.count(6));
        is("undo earn", 3, x::undo);
        is("undo wander", 2, x::undo);
        is("WALK", 6, () -> x.walk(6, 5));
        is("undo bribe", 1, x::undo);
        is("undo nights", 0, x::undo);
        is("COINS of all", 280, () -> x.count(9));
    }

    /** The tape and the latest FAULT's place are not of it. */
    private void imageLeaves() {
        WatchLots x = Checks.of("person 9 0;");
        x.image();
        Checks.tell(x, "fog x;");
        x.feed(0, 0, 0, 0, 0);
        x.feed(0, 0, 0, 0, 0);
        is("STATUS 0", 1, () -> x.count(13));
        x.restore();
        is("STATUS 0 is of it", 0, () -> x.count(13));
        is("the tape stays", 40, () -> x.count(12));
        is("the FAULT's place stays", 4, x::fault);
    }

    /** An IMAGE is kept, in place of another one; it stays as it is behind restore(). */
    private void imageAgain() {
        WatchLots x = Checks.of("person 9 0;");
        x.image();
        x.earn(0, 1);
        is("9 again", 1, () -> x.restore() ? 1 : 0);
        is("9", 9, () -> x.person(0, 0));
        x.earn(0, 5);
        x.earn(0, 5);
        is("once more", 1, () -> x.restore() ? 1 : 0);
        is("9 still", 9, () -> x.person(0, 0));
        is("no ACT", 0, () -> x.count(10));
        x.earn(0, 2);
        x.image();
        x.undo();
        x.restore();
        is("another one", 11, () -> x.person(0, 0));
        is("with its ACT", 1, () -> x.count(10));
        x.image();
        x.image();
        is("the same", 1, () -> x.restore() ? 1 : 0);
        is("11", 11, () -> x.person(0, 0));
    }

    /** A WARD without FAULT takes it away, one with a FAULT leaves it. */
    private void imageIsGone() {
        WatchLots x = Checks.of("person 9 0;");
        x.image();
        checks.due("a FAULT", 1, Checks.tell(x, "x"));
        checks.illegal("no such tape", () -> x.ward(1));
        is("it stays", 1, () -> x.restore() ? 1 : 0);
        checks.due("a WARD", 0, Checks.tell(x, "person 8 0;"));
        is("it is gone", 0, () -> x.restore() ? 1 : 0);
        is("8", 8, () -> x.person(0, 0));
    }
}
