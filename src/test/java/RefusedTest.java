import java.util.function.ToIntFunction;

/**
 * Each call of the face that is refused, throws or just asks: what it answers, whether STATUS counts it, and that it
 * leaves all else as it was.
 */
final class RefusedTest {
    private static final String NO_SUCH = "throws.NoSuchElementException";
    private static final String ILLEGAL = "throws.IllegalArgumentException";
    private static final int[] FAR = {Integer.MIN_VALUE, Integer.MAX_VALUE};

    private final Checks checks = new Checks();
    private final String whole = Whole.of(full());

    private RefusedTest() {
    }

    public static void main(String[] args) {
        RefusedTest test = new RefusedTest();
        test.fullObject();
        test.newObject();
        test.actsRefused();
        test.toldRefused();
        test.textsRefused();
        test.textsTaken();
        test.uncounted();
        test.noSuchWhat();
        test.noSuchStreet();
        test.noSuchPerson();
        test.noSuchPlace();
        test.notWithin();
        test.whichIsAhead();
        test.questions();
        test.checks.end();
    }

    /** Of all that there is, some; 0 is BRIBING, eight are TOLD, a TEXT with a FAULT was the latest. */
    private static WatchLots full() {
        WatchLots x = Checks.of("streets 5; path 0 1; path 1 4; round 0 1 2 3 4; person 300 0 1; person 4 1 2 3;"
                + "bishop 60 2; fog 0 3 7; reserve 8; worth 9 + own * 20 + hours - knows;");
        x.nights(3);
        x.earn(1, 0);
        x.wander(1, 1, 4);
        x.image();
        x.reserve(7);
        x.earn(2, 30);
        x.bribe(0);
        for (int k = 1; k <= 8; k++) {
            x.tell(2, k, k % 3 != 0);
        }
        Checks.tell(x, "fog 1; fog x");
        x.feed(0x666f6720, 0x313b2020, 0x20202020, 0x20202020, 0x20202020);
        return x;
    }

    private void fullObject() {
        WatchLots x = full();
        checks.due("a Whole tells all of it", true, whole.contains("restore true") && whole.contains("undo 4"));
        checks.is("STATUS 0", 1, () -> x.count(13));
        checks.is("STATUS 1", 1, () -> x.count(14));
        checks.is("STATUS 2", 0, () -> x.count(15));
        checks.is("TOLD", 8, () -> x.count(11));
        checks.is("BRIBING", 1, () -> x.count(8));
        checks.is("fault", 7, x::fault);
        checks.due("two of these are alike", whole, Whole.of(full()));
    }

    /** The call answers so, and counts in that STATUS alone (none: -1); all else stays. */
    private void leaves(String call, String due, int status, ToIntFunction<WatchLots> made) {
        WatchLots x = full();
        int[] was = {x.count(13), x.count(14), x.count(15)};
        checks.due(call, due, Checks.answer(() -> made.applyAsInt(x)));
        for (int i = 0; i < 3; i++) {
            int which = i;
            int want = was[i] + (i == status ? 1 : 0);
            checks.is("STATUS " + i + " behind " + call, want, () -> x.count(13 + which));
        }
        checks.due("all behind " + call, whole, Whole.of(x));
    }

    /** 4 STREETS, nobody. */
    private void newObject() {
        WatchLots x = new WatchLots();
        int[] counts = {4, 0, 0, 1, 0, 0, 5, 0, 0, 0, 0, 0, 0, 0, 0, 0};
        for (int i = 0; i < counts.length; i++) {
            int what = i;
            checks.is("new count " + i, counts[i], () -> x.count(what));
        }
        for (int k : new int[] {1, 40}) {
            checks.is("new lots", 0, () -> x.lots(k));
            checks.is("new haunt", -1, () -> x.haunt(k));
            checks.is("new dark", 0, () -> x.dark(k));
            checks.is("new watch", 0, () -> x.watch(k, 5));
        }
        for (int s = 0; s < 4; s++) {
            int street = s;
            checks.is("new paths", 0, () -> x.paths(street));
            checks.is("new lantern", s == 0 ? 63 : 0, () -> x.lantern(street));
            checks.is("new way", 0, () -> x.way(street, street));
            checks.is("new way to 0", s == 0 ? 0 : -1, () -> x.way(street, 0));
            checks.is("new sneak", s == 0 ? -1 : 0, () -> x.sneak(street, street));
        }
        checks.is("new fault", -1, x::fault);
        checks.is("new dark 0", 0, () -> x.dark(0));
        checks.is("new secret", 0, x::secret);
        checks.is("new given", 0, () -> x.given(-1));
        checks.is("new famous", -1, () -> x.most(0));
        checks.is("new richest", -1, () -> x.most(1));
        checks.is("new otherwise", 0, () -> x.otherwise(0));
        checks.is("new first of these", -1, () -> x.otherwise(1));
        checks.is("new without", 1, () -> x.otherwise(2));
        checks.is("new look", -1, () -> x.look(0));
        checks.is("new looks", 0, () -> x.look(1));
        checks.is("new years", 0, () -> x.years(1, 40, 0) + x.years(1, 40, 1) + x.years(1, 40, 2));
        checks.is("new restore", 0, () -> x.restore() ? 1 : 0);
        checks.is("new undo", -1, x::undo);
        x.forget();
        checks.is("new ward", 0, () -> x.ward(0));
        checks.illegal("new ward 1", () -> x.ward(1));
        checks.is("new nights", 1, () -> x.nights(1));
        checks.is("new reserve", 5, () -> x.reserve(5));
        checks.is("NONE", -1, () -> WatchLots.NONE);
    }

    private void actsRefused() {
        for (int many : new int[] {0, -1, 21, Integer.MIN_VALUE, Integer.MAX_VALUE}) {
            leaves("nights " + many, "-1", 1, x -> x.nights(many));
        }
        leaves("bribe who is BRIBING", "-1", 1, x -> x.bribe(0));
        leaves("bribe with 4", "-1", 1, x -> x.bribe(1));
        leaves("wander to the same", "-1", 1, x -> x.wander(1, 1, 4));
        for (int coins : new int[] {0, -1, 100, Integer.MIN_VALUE, Integer.MAX_VALUE}) {
            leaves("earn " + coins, "-1", 1, x -> x.earn(2, coins));
        }
        for (int coins : new int[] {-1, 100, Integer.MIN_VALUE, Integer.MAX_VALUE}) {
            leaves("reserve " + coins, "-1", 1, x -> x.reserve(coins));
        }
    }

    private void toldRefused() {
        leaves("the ninth", "-1", 2, x -> x.tell(0, 1, true));
        leaves("the ninth, not of 12", "-1", 2, x -> x.tell(0, 13, true));
        leaves("the ninth, not from 1", "-1", 2, x -> x.tell(0, 0, false));
    }

    /** The FAULT (all else stays, but STATUS); the tape is empty then, and the FAULT has a place. */
    private void textsRefused() {
        String[] texts = {"streets 8; path 7 6; round 1 2; person 5 5; bishop 6 6; fog 9; reserve 99; worth 1; x", "x",
            "person 999 0;".repeat(7) + "person", "streets 2; round 2;", "reserve 3; reserve", "streets", "path 0 0"};
        int[][] due = {{1, 84}, {1, 0}, {2, 91}, {3, 17}, {5, 11}, {1, 7}, {4, 7}};
        for (int i = 0; i < texts.length; i++) {
            WatchLots x = full();
            checks.is("the tape's own text", 0, () -> full().ward(6));
            checks.illegal("more than it has", () -> x.ward(21));
            checks.due("a FAULT in it", 1, x.ward(5));
            checks.due("the FAULT of " + texts[i], due[i][0], Checks.tell(x, texts[i]));
            checks.is("its place", due[i][1], x::fault);
            checks.is("two more", 3, () -> x.count(13));
            checks.is("not in STATUS 1", 1, () -> x.count(14));
            checks.is("the tape is empty", 0, () -> x.count(12));
            checks.due("all else behind " + texts[i], Whole.withoutTape(full()), Whole.withoutTape(x));
        }
    }

    /** A WARD without FAULT: all anew; STATUS stays; ACTS, what is TOLD, the image are gone. */
    private void textsTaken() {
        String[] texts = {"", "person 9 0; person 9 1 2;", "streets 5; path 0 1; path 1 4; round 0 1 2 3 4;"
                + "person 300 0 1; person 4 1 2 3; bishop 60 2; fog 0 3 7; reserve 8;",
            "round 1 0; bishop 9 0 0 0 0 0 1;"};
        for (String text : texts) {
            WatchLots x = full();
            x.ward(0);
            Checks.tell(x, "reserve 20; worth 50 * (theirs < 19);"
                    + "person 0 0; person 19 0; person 90 1 2; person 70 1;");
            x.nights(1);
            x.bribe(1);
            x.image();
            x.tell(0, 1, true);
            checks.due("much has changed", true, x.count(7) > 0 && x.person(2, 2) > 0 && x.count(4) > 0);
            checks.due("a WARD", 0, Checks.tell(x, text));
            checks.is("STATUS 0", 1, () -> x.count(13));
            checks.is("STATUS 1", 1, () -> x.count(14));
            checks.due("as if it were the first one: " + text, Whole.of(Checks.of(text)), Whole.of(x));
        }
    }

    /** What is refused, but isn't counted. */
    private void uncounted() {
        leaves("ward of more than the tape has", ILLEGAL, -1, x -> x.ward(21));
        leaves("ward of -1", ILLEGAL, -1, x -> x.ward(-1));
        for (int far : FAR) {
            leaves("ward of " + far, ILLEGAL, -1, x -> x.ward(far));
        }
        WatchLots empty = Checks.of("person 9 0;");
        checks.is("undo nothing", -1, empty::undo);
        checks.is("restore nothing", 0, () -> empty.restore() ? 1 : 0);
        for (int i = 0; i < 35; i++) {
            empty.feed(0, 0, 0, 0, 0);
        }
        checks.is("feed over 700", -1, () -> empty.feed(0, 0, 0, 0, 0));
        checks.is("700", 700, () -> empty.count(12));
        checks.is("no STATUS", 0, () -> empty.count(13) + empty.count(14) + empty.count(15));
        checks.is("no ACT", 0, () -> empty.count(10));
        checks.is("COINS", 9, () -> empty.person(0, 0));
    }

    private void noSuchWhat() {
        for (int bad : new int[] {-1, 16, 17, FAR[0], FAR[1]}) {
            leaves("count " + bad, NO_SUCH, -1, x -> x.count(bad));
        }
        for (int bad : new int[] {-1, 5, 6, FAR[0], FAR[1]}) {
            leaves("person what " + bad, NO_SUCH, -1, x -> x.person(0, bad));
        }
        for (int bad : new int[] {-1, 2, 3, FAR[0], FAR[1]}) {
            leaves("sold what " + bad, NO_SUCH, -1, x -> x.sold(0, 1, bad));
            leaves("then what " + bad, NO_SUCH, -1, x -> x.then(0, 1, bad));
            leaves("most " + bad, NO_SUCH, -1, x -> x.most(bad));
            leaves("look " + bad, NO_SUCH, -1, x -> x.look(bad));
            leaves("game what " + bad, NO_SUCH, -1, x -> x.game(0, 1, bad));
        }
        for (int bad : new int[] {-1, 3, 4, FAR[0], FAR[1]}) {
            leaves("otherwise " + bad, NO_SUCH, -1, x -> x.otherwise(bad));
            leaves("years what " + bad, NO_SUCH, -1, x -> x.years(1, 1, bad));
        }
    }

    private void noSuchStreet() {
        for (int bad : new int[] {-1, 5, 6, 8, FAR[0], FAR[1]}) {
            leaves("paths " + bad, NO_SUCH, -1, x -> x.paths(bad));
            leaves("lantern " + bad, NO_SUCH, -1, x -> x.lantern(bad));
            leaves("way " + bad, NO_SUCH, -1, x -> x.way(bad, 0));
            leaves("way to " + bad, NO_SUCH, -1, x -> x.way(0, bad));
            leaves("sneak " + bad, NO_SUCH, -1, x -> x.sneak(bad, 0));
            leaves("sneak to " + bad, NO_SUCH, -1, x -> x.sneak(0, bad));
            leaves("wander to " + bad, NO_SUCH, -1, x -> x.wander(0, 0, bad));
        }
    }

    private void noSuchPerson() {
        for (int bad : new int[] {-1, 3, 4, 7, FAR[0], FAR[1]}) {
            leaves("person " + bad, NO_SUCH, -1, x -> x.person(bad, 0));
            leaves("walk " + bad, NO_SUCH, -1, x -> x.walk(bad, 0));
            leaves("bribe " + bad, NO_SUCH, -1, x -> x.bribe(bad));
            leaves("wander " + bad, NO_SUCH, -1, x -> x.wander(bad, 0, 0));
            leaves("earn " + bad, NO_SUCH, -1, x -> x.earn(bad, 1));
            leaves("sold " + bad, NO_SUCH, -1, x -> x.sold(bad, 1, 0));
            leaves("then " + bad, NO_SUCH, -1, x -> x.then(bad, 1, 0));
            leaves("first " + bad, NO_SUCH, -1, x -> x.first(bad));
            leaves("safe " + bad, NO_SUCH, -1, x -> x.safe(bad));
            leaves("toHide " + bad, NO_SUCH, -1, x -> x.toHide(bad));
            leaves("toWin " + bad, NO_SUCH, -1, x -> x.toWin(bad, 0));
            leaves("toWin of " + bad, NO_SUCH, -1, x -> x.toWin(0, bad));
            leaves("given " + bad, bad == -1 ? String.valueOf(full().given(-1)) : NO_SUCH, -1, x -> x.given(bad));
            leaves("gossip " + bad, NO_SUCH, -1, x -> x.gossip(bad));
            leaves("meet " + bad, NO_SUCH, -1, x -> x.meet(bad, 0));
            leaves("meet with " + bad, NO_SUCH, -1, x -> x.meet(0, bad));
            leaves("spends " + bad, NO_SUCH, -1, x -> x.spends(bad, 1));
            leaves("unknown " + bad, NO_SUCH, -1, x -> x.unknown(bad));
            leaves("tell " + bad, NO_SUCH, -1, x -> x.tell(bad, 1, true));
            leaves("game " + bad, NO_SUCH, -1, x -> x.game(bad, 0, 0));
            leaves("game with " + bad, NO_SUCH, -1, x -> x.game(0, bad, 0));
        }
    }

    private void noSuchPlace() {
        for (int bad : new int[] {-1, 3, 6, FAR[0], FAR[1]}) {
            leaves("walk at " + bad, NO_SUCH, -1, x -> x.walk(1, bad));
            leaves("wander at " + bad, NO_SUCH, -1, x -> x.wander(1, bad, 0));
        }
        leaves("walk at 1 of one", NO_SUCH, -1, x -> x.walk(2, 1));
        leaves("wander at 1 of one", NO_SUCH, -1, x -> x.wander(2, 1, 0));
    }

    private void notWithin() {
        for (int bad : new int[] {0, -1, 41, FAR[0], FAR[1]}) {
            leaves("lots " + bad, ILLEGAL, -1, x -> x.lots(bad));
            leaves("sold " + bad, ILLEGAL, -1, x -> x.sold(0, bad, 0));
            leaves("haunt " + bad, ILLEGAL, -1, x -> x.haunt(bad));
            leaves("watch " + bad, ILLEGAL, -1, x -> x.watch(bad, 0));
        }
        for (int bad : new int[] {-1, 41, FAR[0], FAR[1]}) {
            leaves("then " + bad, ILLEGAL, -1, x -> x.then(0, bad, 0));
            leaves("dark " + bad, ILLEGAL, -1, x -> x.dark(bad));
            leaves("spends " + bad, ILLEGAL, -1, x -> x.spends(0, bad));
            leaves("years of " + bad, ILLEGAL, -1, x -> x.years(1, bad, 0));
        }
        for (int bad : new int[] {-1, 6, FAR[0], FAR[1]}) {
            leaves("watch in " + bad, ILLEGAL, -1, x -> x.watch(1, bad));
        }
        leaves("game with oneself", ILLEGAL, -1, x -> x.game(2, 2, 1));
    }

    /** Where two could be told: NoSuchElementException is ahead of IllegalArgumentException, and of NONE. */
    private void whichIsAhead() {
        for (int bad : new int[] {-1, 41}) {
            leaves("sold PERSON, k " + bad, NO_SUCH, -1, x -> x.sold(3, bad, 0));
            leaves("sold what, k " + bad, NO_SUCH, -1, x -> x.sold(0, bad, 2));
            leaves("sold all, k " + bad, NO_SUCH, -1, x -> x.sold(-1, bad, -1));
            leaves("then PERSON, nights " + bad, NO_SUCH, -1, x -> x.then(3, bad, 0));
            leaves("then what, nights " + bad, NO_SUCH, -1, x -> x.then(0, bad, 2));
            leaves("then all, nights " + bad, NO_SUCH, -1, x -> x.then(-1, bad, -1));
            leaves("spends PERSON, nights " + bad, NO_SUCH, -1, x -> x.spends(3, bad));
            leaves("years what, n " + bad, NO_SUCH, -1, x -> x.years(1, bad, 3));
            leaves("tell PERSON, k " + bad, NO_SUCH, -1, x -> x.tell(3, bad, true));
            leaves("earn PERSON, coins " + bad, NO_SUCH, -1, x -> x.earn(3, bad * 100));
            leaves("watch k and HOUR " + bad, ILLEGAL, -1, x -> x.watch(bad, bad));
        }
        leaves("game what, both one", NO_SUCH, -1, x -> x.game(1, 1, 2));
        leaves("game what -1, both one", NO_SUCH, -1, x -> x.game(1, 1, -1));
        leaves("game PEOPLE, both one", NO_SUCH, -1, x -> x.game(3, 3, 0));
        leaves("wander STREET, the same or not", NO_SUCH, -1, x -> x.wander(1, 1, 5));
        leaves("wander place, a STREET that is there", NO_SUCH, -1, x -> x.wander(1, 3, 4));
    }

    /** What just asks leaves all as it was. */
    private void questions() {
        for (int what = 0; what < 16; what++) {
            int w = what;
            asks("count " + w, x -> x.count(w));
        }
        for (int what = 0; what < 5; what++) {
            int w = what;
            asks("person " + w, x -> x.person(1, w));
        }
        for (int what = 0; what < 2; what++) {
            int w = what;
            asks("sold " + w, x -> x.sold(0, 40, w));
            asks("then " + w, x -> x.then(0, 40, w));
            asks("most " + w, x -> x.most(w));
            asks("look " + w, x -> x.look(w));
            asks("game " + w, x -> x.game(2, 0, w));
            asks("game of others " + w, x -> x.game(1, 2, w));
        }
        for (int what = 0; what < 3; what++) {
            int w = what;
            asks("otherwise " + w, x -> x.otherwise(w));
            asks("years " + w, x -> x.years(-7, 40, w));
        }
        asks("fault", WatchLots::fault);
        asks("paths", x -> x.paths(1));
        asks("walk", x -> x.walk(1, 2));
        asks("lots", x -> x.lots(40));
        asks("dark", x -> x.dark(40));
        asks("first", x -> x.first(0));
        asks("secret", WatchLots::secret);
        asks("haunt", x -> x.haunt(40));
        asks("watch", x -> x.watch(40, 5));
        asks("way", x -> x.way(0, 4));
        asks("sneak", x -> x.sneak(1, 0));
        asks("safe", x -> x.safe(1));
        asks("toHide", x -> x.toHide(1));
        asks("toWin", x -> x.toWin(0, 2));
        asks("given", x -> x.given(2));
        asks("given to all", x -> x.given(-1));
        asks("gossip", x -> x.gossip(2));
        asks("lantern", x -> x.lantern(4));
        asks("meet", x -> x.meet(0, 1));
        asks("spends", x -> x.spends(2, 40));
        asks("unknown", x -> x.unknown(1));
    }

    /** No STATUS, no change, and the same answer again. */
    private void asks(String call, ToIntFunction<WatchLots> made) {
        String answer = String.valueOf(made.applyAsInt(full()));
        leaves(call, answer, -1, made);
        WatchLots x = full();
        made.applyAsInt(x);
        checks.is(call + " again", made.applyAsInt(full()), () -> made.applyAsInt(x));
    }
}
