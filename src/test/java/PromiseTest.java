/** Promise by promise: ordinary calls, the edges that the document names, and what is refused or throws. */
final class PromiseTest {
    // In each NIGHT one of the first six HOURS' STREETS: 0 1 2 3 0 1, then 2 3 0 1 2 3, and so on.
    private static final String QUARTER = "streets 4; path 0 1; path 1 2; path 2 3; round 0 1 2 3;";
    // 0 is SEEN in HOURS 0 and 4 (even NIGHTS), 2 (odd ones); 1 in 1 and 5, or 3; 2 in no HOUR.
    private static final String THREE = QUARTER + "person 30 0; person 40 1; bishop 9 1 0; reserve 6;";

    private final Checks checks = new Checks();

    private PromiseTest() {
    }

    public static void main(String[] args) {
        PromiseTest test = new PromiseTest();
        test.newObject();
        test.feeding();
        test.wardAnew();
        test.wardRefused();
        test.counting();
        test.streets();
        test.people();
        test.nightsGoBy();
        test.nightsRefused();
        test.acts();
        test.actsRefused();
        test.undoing();
        test.manyActs();
        test.forecasts();
        test.forecastRefusals();
        test.sales();
        test.reserveRule();
        test.rules();
        test.wrapping();
        test.seenOrNot();
        test.haunting();
        test.ways();
        test.sneaking();
        test.hiding();
        test.winning();
        test.givingOut();
        test.knowing();
        test.telling();
        test.others();
        test.games();
        test.yearsBySeed();
        test.images();
        test.wardBehindWard();
        test.farNights();
        test.undoneRows();
        test.sevenPeople();
        test.lookFar();
        test.imageOfRows();
        test.checks.end();
    }

    private void is(String what, int want, java.util.function.IntSupplier call) {
        checks.is(what, want, call);
    }

    private void newObject() {
        WatchLots x = new WatchLots();
        int[] want = {4, 0, 0, 1, 0, 0, 5, 0, 0, 0, 0, 0, 0, 0, 0, 0};
        for (int i = 0; i < want.length; i++) {
            int what = i;
            is("new count " + i, want[i], () -> x.count(what));
        }
        is("new fault", -1, x::fault);
        is("new restore", 0, () -> x.restore() ? 1 : 0);
        is("new undo", -1, x::undo);
        is("new reserve", 5, () -> x.reserve(7));
        is("new most", -1, () -> x.most(0));
        is("new richest", -1, () -> x.most(1));
        is("new given", 0, () -> x.given(-1));
        checks.noSuch("new person", () -> x.person(0, 0));
        checks.noSuch("new given 0", () -> x.given(0));
        is("NONE", -1, () -> WatchLots.NONE);
    }

    private void feeding() {
        WatchLots x = new WatchLots();
        for (int i = 1; i <= 35; i++) {
            is("feed " + i, 20 * i, () -> x.feed(0x20202020, 0x20202020, 0x20202020, 0x20202020, 0x20202020));
        }
        is("feed over 700", -1, () -> x.feed(0, 0, 0, 0, 0));
        is("tape", 700, () -> x.count(12));
        is("700 blanks", 0, () -> x.ward(700));
        is("tape behind", 0, () -> x.count(12));
        is("feed again", 20, () -> x.feed(0x666f6720, 0x393b0a20, -1, -1, -1));
        is("fog 9;", 0, () -> x.ward(8));
        is("fog", 9, () -> x.count(5));
        is("a byte of 255", 20, () -> x.feed(-1, 0, 0, 0, 0));
        is("is no TOKEN", 1, () -> x.ward(1));
        is("status", 1, () -> x.count(13));
        is("feed refused is no status", 0, () -> x.count(14));
    }

    private void wardAnew() {
        WatchLots x = Checks.of(THREE);
        x.nights(2);
        x.bribe(0);
        x.nights(0);
        x.tell(0, 1, true);
        x.tell(0, 0, true);
        x.image();
        is("a text with a fault", 1, () -> Checks.tell(x, "x"));
        is("ACTS stay", 2, () -> x.count(10));
        is("TOLD stays", 1, () -> x.count(11));
        is("the image stays", 1, () -> x.restore() ? 1 : 0);
        is("the NIGHT stays", 2, () -> x.count(4));
        is("fault stays behind restore", 0, x::fault);
        is("anew", 0, () -> Checks.tell(x, "person 7 3; fog 3;"));
        is("anew fault", -1, x::fault);
        is("anew people", 1, () -> x.count(2));
        is("anew round", 1, () -> x.count(3));
        is("anew paths", 0, () -> x.count(1));
        is("anew night", 0, () -> x.count(4));
        is("anew fog", 3, () -> x.count(5));
        is("anew reserve", 5, () -> x.count(6));
        is("anew bribing", 0, () -> x.count(8));
        is("anew acts", 0, () -> x.count(10));
        is("anew told", 0, () -> x.count(11));
        is("anew image", 0, () -> x.restore() ? 1 : 0);
        is("anew undo", -1, x::undo);
        is("status stays", 1, () -> x.count(14));
        is("status stays 2", 1, () -> x.count(15));
    }

    private void wardRefused() {
        WatchLots x = new WatchLots();
        x.feed(0x78202020, 0, 0, 0, 0);
        checks.illegal("ward 21", () -> x.ward(21));
        checks.illegal("ward -1", () -> x.ward(-1));
        is("the tape stays", 20, () -> x.count(12));
        is("fault stays", -1, x::fault);
        is("status stays", 0, () -> x.count(13));
        is("ward of x", 1, () -> x.ward(1));
        is("fault", 0, x::fault);
        is("all of the tape is gone", 0, () -> x.count(12));
        checks.illegal("ward 1", () -> x.ward(1));
        is("fault of the latest", 0, x::fault);
        is("an empty text", 0, () -> x.ward(0));
        is("no fault", -1, x::fault);
        is("status", 1, () -> x.count(13));
    }

    private void counting() {
        WatchLots x = Checks.of(THREE + "fog 1 2 3;");
        int[] want = {4, 3, 3, 4, 0, 1, 6, 0, 0, 79, 0, 0, 0, 0, 0, 0};
        for (int i = 0; i < want.length; i++) {
            int what = i;
            is("count " + i, want[i], () -> x.count(what));
        }
        x.nights(1);
        is("FOG of the next NIGHT", 2, () -> x.count(5));
        x.nights(2);
        is("FOG goes round", 1, () -> x.count(5));
        x.bribe(0);
        x.bribe(2);
        is("BRIBING", 5, () -> x.count(8));
        is("ACTS", 4, () -> x.count(10));
        checks.noSuch("count -1", () -> x.count(-1));
        checks.noSuch("count 16", () -> x.count(16));
    }

    private void streets() {
        WatchLots x = Checks.of(QUARTER);
        is("paths 0", 2, () -> x.paths(0));
        is("paths 1", 5, () -> x.paths(1));
        is("paths 3", 4, () -> x.paths(3));
        checks.noSuch("paths 4", () -> x.paths(4));
        checks.noSuch("paths -1", () -> x.paths(-1));
        is("lantern 0", 17, () -> x.lantern(0));
        is("lantern 3", 8, () -> x.lantern(3));
        checks.noSuch("lantern 4", () -> x.lantern(4));
        is("watch 1 5", 1, () -> x.watch(1, 5));
        is("watch 2 0", 2, () -> x.watch(2, 0));
        is("watch 40 5", 3, () -> x.watch(40, 5));
        WatchLots five = Checks.of("round 0 1 2 3 3;");
        is("watch 2 0 of five places", 1, () -> five.watch(2, 0));
        is("watch 3 4 of five places", 1, () -> five.watch(3, 4));
        x.nights(1);
        is("lantern next", 4, () -> x.lantern(0));
        is("watch next", 2, () -> x.watch(1, 0));
        checks.illegal("watch 0 0", () -> x.watch(0, 0));
        checks.illegal("watch 41 0", () -> x.watch(41, 0));
        checks.illegal("watch 1 6", () -> x.watch(1, 6));
        checks.illegal("watch 1 -1", () -> x.watch(1, -1));
    }

    private void people() {
        WatchLots x = Checks.of(THREE);
        is("coins", 30, () -> x.person(0, 0));
        is("places", 2, () -> x.person(2, 1));
        is("knows nobody", 0, () -> x.person(0, 2));
        is("no bishop", 0, () -> x.person(0, 3));
        is("bishop", 1, () -> x.person(2, 3));
        is("seen 0", 17, () -> x.person(0, 4));
        is("seen 1", 34, () -> x.person(1, 4));
        is("seen 2", 0, () -> x.person(2, 4));
        is("walk", 0, () -> x.walk(2, 1));
        is("walk 0", 1, () -> x.walk(2, 0));
        checks.noSuch("person 3", () -> x.person(3, 0));
        checks.noSuch("person -1", () -> x.person(-1, 0));
        checks.noSuch("person what 5", () -> x.person(0, 5));
        checks.noSuch("person what -1", () -> x.person(0, -1));
        checks.noSuch("walk place 2", () -> x.walk(2, 2));
        checks.noSuch("walk place -1", () -> x.walk(2, -1));
        checks.noSuch("walk of 3", () -> x.walk(3, 0));
        x.bribe(0);
        is("who is BRIBING isn't seen", 0, () -> x.person(0, 4));
        is("meet", 0, () -> x.meet(0, 1));
        is("meet 0 2", 42, () -> x.meet(0, 2));
        is("meet oneself", 63, () -> x.meet(1, 1));
        x.wander(1, 0, 0);
        is("meet as WALKS are now", 63, () -> x.meet(0, 1));
        checks.noSuch("meet 3", () -> x.meet(0, 3));
        checks.noSuch("meet -1", () -> x.meet(-1, 0));
    }

    /** 0 bids 30 for the own LOT (20 and 5 by 2), then 1 bids 13; and so on. */
    private void nightsGoBy() {
        WatchLots x = Checks.of(THREE);
        is("nights 1", 1, () -> x.nights(1));
        // LOT 0: bids 30, 13, 9. LOT 1: bids 13 of 17, 30, 9.
        is("0 paid 13", 17, () -> x.person(0, 0));
        is("1 paid 13", 27, () -> x.person(1, 0));
        is("the bishop paid nothing", 9, () -> x.person(2, 0));
        is("none in the DARK", 0, () -> x.count(7));
        // NIGHT 1, LOT 0: bids 17 of 25, 8, 8. LOT 1: 8, 25, 8.
        is("nights 20", 21, () -> x.nights(20));
        is("all of a NIGHT is undone", 1, x::undo);
        is("0 has 17 again", 17, () -> x.person(0, 0));
        is("nights 1 more", 2, () -> x.nights(1));
        is("0 paid 8", 9, () -> x.person(0, 0));
        is("1 paid 8", 19, () -> x.person(1, 0));
    }

    private void nightsRefused() {
        WatchLots x = Checks.of(THREE);
        is("nights 0", -1, () -> x.nights(0));
        is("nights 21", -1, () -> x.nights(21));
        is("nights -1", -1, () -> x.nights(-1));
        is("nights most", -1, () -> x.nights(Integer.MAX_VALUE));
        is("status", 4, () -> x.count(14));
        for (int i = 1; i <= 49; i++) {
            is("nights to " + 20 * i, 20 * i, () -> x.nights(20));
        }
        is("above 999", -1, () -> x.nights(20));
        is("to 999", 999, () -> x.nights(19));
        is("above 999 by 1", -1, () -> x.nights(1));
        is("40 ahead of 999", 1, () -> x.watch(40, 5));
        is("status behind", 6, () -> x.count(14));
    }

    private void acts() {
        WatchLots x = Checks.of(THREE);
        is("bribe", 25, () -> x.bribe(0));
        is("bribing", 1, () -> x.count(8));
        is("wander", 1, () -> x.wander(1, 0, 3));
        is("walk", 3, () -> x.walk(1, 0));
        is("earn", 108, () -> x.earn(2, 99));
        is("earn 1", 109, () -> x.earn(2, 1));
        is("reserve", 6, () -> x.reserve(0));
        is("reserve as it is", 0, () -> x.reserve(0));
        is("reserve 99", 0, () -> x.reserve(99));
        is("acts", 7, () -> x.count(10));
        WatchLots y = Checks.of("person 990 0; person 5 1; person 4 1;");
        is("to 999", 999, () -> y.earn(0, 50));
        is("at 999", 999, () -> y.earn(0, 1));
        is("also an ACT", 2, () -> y.count(10));
        is("bribe with 5", 0, () -> y.bribe(1));
        is("bribe with 4", -1, () -> y.bribe(2));
        y.nights(1);
        is("nobody is BRIBING any more", 0, () -> y.count(8));
    }

    private void actsRefused() {
        WatchLots x = Checks.of(THREE);
        x.bribe(0);
        is("bribe twice", -1, () -> x.bribe(0));
        is("wander to the same", -1, () -> x.wander(0, 0, 0));
        is("earn 0", -1, () -> x.earn(0, 0));
        is("earn 100", -1, () -> x.earn(0, 100));
        is("earn -5", -1, () -> x.earn(0, -5));
        is("reserve -1", -1, () -> x.reserve(-1));
        is("reserve 100", -1, () -> x.reserve(100));
        is("status", 7, () -> x.count(14));
        checks.noSuch("bribe 3", () -> x.bribe(3));
        checks.noSuch("wander 3", () -> x.wander(3, 0, 0));
        checks.noSuch("wander place", () -> x.wander(0, 1, 0));
        checks.noSuch("wander street", () -> x.wander(0, 0, 4));
        checks.noSuch("wander street -1", () -> x.wander(0, 0, -1));
        checks.noSuch("earn 3", () -> x.earn(3, 0));
        checks.noSuch("earn -1", () -> x.earn(-1, 0));
        is("not counted", 7, () -> x.count(14));
        is("no ACT", 1, () -> x.count(10));
        is("nothing of it", 25, () -> x.person(0, 0));
    }

    private void undoing() {
        WatchLots x = Checks.of(THREE);
        is("none", -1, x::undo);
        x.bribe(0);
        x.wander(0, 0, 3);
        x.earn(0, 7);
        x.reserve(50);
        x.nights(3);
        is("undo nights", 4, x::undo);
        is("night", 0, () -> x.count(4));
        is("dark", 0, () -> x.count(7));
        is("bribing", 1, () -> x.count(8));
        is("reserve is 50", 50, () -> x.count(6));
        is("undo reserve", 3, x::undo);
        is("reserve is 6", 6, () -> x.count(6));
        is("coins 32", 32, () -> x.person(0, 0));
        is("undo earn", 2, x::undo);
        is("coins 25", 25, () -> x.person(0, 0));
        is("undo wander", 1, x::undo);
        is("walk", 0, () -> x.walk(0, 0));
        is("undo bribe", 0, x::undo);
        is("coins 30", 30, () -> x.person(0, 0));
        is("not bribing", 0, () -> x.count(8));
        is("none any more", -1, x::undo);
        is("no status", 0, () -> x.count(14));
    }

    private void manyActs() {
        WatchLots x = Checks.of("person 0 1;");
        for (int i = 1; i <= 43; i++) {
            x.earn(0, 1);
        }
        is("40 are kept", 40, () -> x.count(10));
        for (int i = 39; i >= 0; i--) {
            is("undo to " + i, i, x::undo);
        }
        is("the latest ones were kept", 3, () -> x.person(0, 0));
        is("none", -1, x::undo);
        for (int i = 1; i <= 42; i++) {
            x.nights(1);
        }
        for (int i = 41; i >= 2; i--) {
            x.undo();
            int night = i;
            is("NIGHT behind undo", night, () -> x.count(4));
        }
        is("none once more", -1, x::undo);
    }

    private void forecasts() {
        WatchLots x = Checks.of(THREE);
        is("lots 1", 3, () -> x.lots(1));
        is("lots 40", 3, () -> x.lots(40));
        is("buyer", 0, () -> x.sold(0, 1, 0));
        is("price", 13, () -> x.sold(0, 1, 1));
        is("no lot", -1, () -> x.sold(2, 1, 0));
        is("no lot's price", -1, () -> x.sold(2, 1, 1));
        is("then 0", 30, () -> x.then(0, 0, 0));
        is("then 1", 17, () -> x.then(0, 1, 0));
        is("then 2", 9, () -> x.then(0, 2, 0));
        is("knows then", 0, () -> x.then(0, 2, 1));
        is("dark 0", 0, () -> x.dark(0));
        is("spends 1", 13, () -> x.spends(0, 1));
        is("spends 2", 21, () -> x.spends(0, 2));
        is("spends 0", 0, () -> x.spends(0, 0));
        is("1 buys 0 in the third", 1, () -> x.sold(0, 3, 0));
        is("for all that 0 has", 9, () -> x.sold(0, 3, 1));
        is("and knows 0 then", 1, () -> x.then(1, 3, 1) & 1);
        is("nothing has changed", 0, () -> x.count(4));
        is("no ACT of it", 0, () -> x.count(10));
        x.bribe(0);
        is("bribing hides in the first NIGHT", 2, () -> x.lots(1));
        is("alone", 3, () -> x.lots(2));
        is("first", 2, () -> x.first(0));
        is("dark grows", 0, () -> x.dark(1));
        x.reserve(99);
        is("dark 1", 1, () -> x.dark(1));
        is("dark 40", 79, () -> x.dark(40));
        x.nights(2);
        is("dark then", 3, () -> x.dark(0));
    }

    private void forecastRefusals() {
        WatchLots x = Checks.of(THREE);
        for (int bad : new int[] {0, 41, -1}) {
            checks.illegal("lots " + bad, () -> x.lots(bad));
            checks.illegal("sold " + bad, () -> x.sold(0, bad, 0));
            checks.illegal("haunt " + bad, () -> x.haunt(bad));
            checks.noSuch("sold person ahead " + bad, () -> x.sold(3, bad, 0));
            checks.noSuch("sold what ahead " + bad, () -> x.sold(0, bad, 2));
        }
        for (int bad : new int[] {41, -1}) {
            checks.illegal("then " + bad, () -> x.then(0, bad, 0));
            checks.illegal("dark " + bad, () -> x.dark(bad));
            checks.illegal("spends " + bad, () -> x.spends(0, bad));
            checks.noSuch("then person ahead " + bad, () -> x.then(-1, bad, 0));
            checks.noSuch("then what ahead " + bad, () -> x.then(0, bad, -1));
            checks.noSuch("then what 2 ahead " + bad, () -> x.then(0, bad, 2));
            checks.noSuch("spends person ahead " + bad, () -> x.spends(3, bad));
        }
        checks.noSuch("first 3", () -> x.first(3));
    }

    /** All walk in STREET 0 and are SEEN in all 6 HOURS: 50 for the own LOT, 33 for another one, 24 if KNOWN. */
    private void sales() {
        WatchLots x = Checks.of("person 100 0; person 100 0; person 20 1; reserve 0;");
        is("0 buys 0", 0, () -> x.sold(0, 1, 0));
        is("for the next bid", 33, () -> x.sold(0, 1, 1));
        is("1 buys 1", 1, () -> x.sold(1, 1, 0));
        is("for 33 too", 33, () -> x.sold(1, 1, 1));
        is("NIGHT 2: for 33", 33, () -> x.sold(0, 2, 1));
        is("NIGHT 3: 0 has 34", 34, () -> x.then(0, 2, 0));
        is("NIGHT 3: next bid of 34 and 20", 33, () -> x.sold(0, 3, 1));
        is("NIGHT 4: 2 buys 0", 2, () -> x.sold(0, 4, 0));
        is("for 14", 14, () -> x.sold(0, 4, 1));
        is("and KNOWS 0", 1, () -> x.then(2, 4, 1) & 1);
        WatchLots alike = Checks.of("person 9 1; person 30 2; person 40 3; person 0 0; reserve 3; worth 30;");
        is("of like ones the least", 1, () -> alike.sold(3, 1, 0));
        is("for as much", 30, () -> alike.sold(3, 1, 1));
        is("1 KNOWS 3", 8, () -> alike.then(1, 1, 1));
        WatchLots poor = Checks.of("person 0 0; reserve 0;");
        is("no bid above 0", -1, () -> poor.sold(0, 1, 0));
        is("no price", -1, () -> poor.sold(0, 1, 1));
        is("the DARK has it", 1, () -> poor.dark(1));
    }

    private void reserveRule() {
        WatchLots x = Checks.of("person 10 0; reserve 10;");
        is("RESERVE and no less", 0, () -> x.sold(0, 1, 0));
        is("at RESERVE", 10, () -> x.sold(0, 1, 1));
        x.reserve(11);
        is("less than RESERVE", -1, () -> x.sold(0, 1, 0));
        is("in the DARK", 1, () -> x.dark(1));
        x.reserve(0);
        is("for nothing", 0, () -> x.sold(0, 1, 1));
        is("a LOT of one's own isn't KNOWN", 0, () -> x.then(0, 1, 1));
        WatchLots bishop = Checks.of("bishop 70 0; person 60 1; reserve 5; worth 1000 - own * 1000;");
        is("a bishop bids all", 0, () -> bishop.sold(0, 1, 0));
        is("for 60", 60, () -> bishop.sold(0, 1, 1));
        WatchLots bidder = Checks.of("person 50 0; bishop 70 1; reserve 5; worth 6;");
        is("but for the own one alone", 6, () -> bidder.sold(0, 1, 1));
    }

    private void rule(String expr, int want) {
        // The one bidder is 1 (0 has nothing); RESERVE 1, so that the BUYER tells whether the bid is 1 or more.
        WatchLots x = Checks.of("streets 3; person 0 2 1; person 900 0; round 1 1 2 2; reserve 0;"
                + "worth (" + expr + ");");
        is("worth " + expr, want, () -> x.given(-1));
    }

    /** 0 walks 2 1 and the watch 1 1 2 2 1 1: 0 is SEEN in HOURS 1, 2, 5; the first time in STREET 1. */
    private void rules() {
        rule("7", 7);
        rule("1+2*3", 7);
        rule("20-5-3", 12);
        rule("100/7/2", 7);
        rule("100/7*2", 28);
        rule("5/0+3", 3);
        rule("(0-7)/2+10", 7);
        rule("2<3", 1);
        rule("3<3", 0);
        rule("3=3", 1);
        rule("not 5", 0);
        rule("not 0", 1);
        rule("not not 5", 1);
        rule("5 or 0", 1);
        rule("0 or 0", 0);
        rule("5 and 3", 1);
        rule("5 and 0", 0);
        rule("1 or 1 and 0", 1);
        rule("not 1 = 0", 1);
        rule("1 + 1 = 2 and 3", 1);
        rule("(2<3)*9", 9);
        rule("own + 4", 4);
        rule("coins - 890", 10);
        rule("theirs + 4", 4);
        rule("knows + 4", 4);
        rule("hours", 3);
        rule("street + 4", 5);
        rule("lots", 1);
        rule("night + 4", 4);
        rule("1000", 900);
        rule("0 - 5", 0);
        WatchLots night = Checks.of("person 500 0; reserve 0; worth night * 10 + own;");
        night.nights(7);
        is("night", 71, () -> night.given(-1));
        WatchLots lots = Checks.of("person 1 0; person 90 0; person 20 1; reserve 0; worth lots * 10 + theirs;");
        is("lots and theirs", 110, () -> lots.given(-1));
        WatchLots knows = Checks.of("person 0 0; person 90 1; reserve 3; worth 20 - knows * 8;");
        knows.nights(1);
        is("knows", 12, () -> knows.given(-1));
        WatchLots plain = Checks.of("person 0 0; person 90 1; reserve 3;");
        is("without WORTH", 33, () -> plain.given(-1));
        WatchLots own = Checks.of("round 1 1 0 1 1 1; person 90 0;");
        is("one's own without WORTH", 25, () -> own.given(-1));
        plain.nights(1);
        is("9 less, if KNOWN", 24, () -> plain.given(-1));
    }

    private void wrapping() {
        rule("9999 * 9999 * 9999 < 0", 9999 * 9999 * 9999 < 0 ? 1 : 0);
        rule("9999 * 9999 * 9999 / 1000 / 1000 + 1100", 9999 * 9999 * 9999 / 1000 / 1000 + 1100);
        // the least int by -1 is itself
        rule("(4096 * 4096 * 128 / (0 - 1)) < 0", 1);
        rule("4096 * 4096 * 128 < 0", 1);
    }

    private void seenOrNot() {
        WatchLots x = Checks.of(QUARTER + "fog 7 6 9; person 1 2; person 1 0 1 2 0; person 1 1;");
        is("thick FOG", 0, () -> x.lots(1));
        is("FOG of 6", 5, () -> x.lots(2));
        is("FOG of 9", 0, () -> x.lots(3));
        is("first 0", 2, () -> x.first(0));
        is("seen in FOG", 0, () -> x.person(1, 4));
        x.nights(1);
        is("first 0 now", 1, () -> x.first(0));
        is("hours", 17, () -> x.person(0, 4));
        x.bribe(0);
        is("nobody who hasn't 5", 0, () -> x.count(8));
        is("secret", 0, x::secret);
        WatchLots y = Checks.of("streets 3; round 0 1; person 9 2; person 9 1 0; person 9 0; fog 0 7;");
        is("secret 0 1", 3, y::secret);
        is("no first", -1, () -> y.first(1));
        is("first 1", 1, () -> y.first(2));
        y.bribe(2);
        is("first 3", 3, () -> y.first(2));
        is("secret as ever", 3, y::secret);
        WatchLots z = Checks.of("fog 9 9 9 9 9 9 9 0; person 1 0;");
        is("first 8", 8, () -> z.first(0));
    }

    private void haunting() {
        WatchLots x = Checks.of(QUARTER + "person 9 1; person 9 2; person 9 2; fog 0 0 8;");
        is("HOURS 1, 5 of one, 2 of two: of like ones the least", 1, () -> x.haunt(1));
        is("two NIGHTS", 2, () -> x.haunt(2));
        is("the third is in FOG", 2, () -> x.haunt(3));
        x.bribe(0);
        is("without 1", 2, () -> x.haunt(1));
        WatchLots y = Checks.of("round 1; person 9 0;");
        is("none", -1, () -> y.haunt(40));
        WatchLots z = Checks.of("round 1 1 0 1 1 1 1; person 9 2 2 0;");
        is("one PERSON in one HOUR", 0, () -> z.haunt(1));
    }

    private void ways() {
        WatchLots x = Checks.of("streets 6; path 0 1; path 1 2; path 2 3; path 0 4; path 4 3;");
        is("0 to 3", 2, () -> x.way(0, 3));
        is("3 to 1", 2, () -> x.way(3, 1));
        is("to itself", 0, () -> x.way(5, 5));
        is("none", -1, () -> x.way(0, 5));
        is("1 to 4", 2, () -> x.way(1, 4));
        checks.noSuch("way 6", () -> x.way(6, 0));
        checks.noSuch("way to 6", () -> x.way(0, 6));
        checks.noSuch("way -1", () -> x.way(-1, 0));
        WatchLots y = Checks.of("streets 8; path 0 1; path 1 2; path 2 3; path 3 4; path 4 5; path 5 6; path 6 7;");
        is("7 paths", 7, () -> y.way(0, 7));
    }

    private void sneaking() {
        WatchLots x = Checks.of("streets 8; path 0 1; path 1 2; path 2 3; path 3 4; path 4 5; path 5 6; round 7;");
        is("as long as the WAY", 5, () -> x.sneak(0, 5));
        is("too long", -1, () -> x.sneak(0, 6));
        is("stays", 0, () -> x.sneak(2, 2));
        is("where the watch is", -1, () -> x.sneak(7, 7));
        WatchLots y = Checks.of("streets 4; path 0 1; path 1 2; round 3 1 1 3 3 3;");
        is("waits", 4, () -> y.sneak(0, 2));
        is("waits for 1", 3, () -> y.sneak(2, 1));
        WatchLots z = Checks.of(QUARTER);
        is("in the first HOUR the watch is there", -1, () -> z.sneak(0, 3));
        is("a later NIGHT", 2, () -> {
            z.nights(1);
            return z.sneak(1, 3);
        });
        WatchLots fog = Checks.of("fog 9; round 1;");
        is("FOG doesn't help", -1, () -> fog.sneak(1, 1));
        checks.noSuch("sneak 4", () -> fog.sneak(4, 0));
        checks.noSuch("sneak to -1", () -> fog.sneak(0, -1));
    }

    private void hiding() {
        WatchLots x = Checks.of(QUARTER + "person 9 0 0; person 9 1; person 9 2 3; person 9 1 2 1 0 3 2;"
                + "person 9 2 1 2 0 3 2; fog 9;");
        is("safe 0: the watch is in 0 in HOURS 0 and 4", 2, () -> x.safe(0));
        is("to hide 0", 1, () -> x.toHide(0));
        is("safe 1", 0, () -> x.safe(1));
        is("to hide 1: the watch is everywhere", -1, () -> x.toHide(1));
        is("safe 2", 0, () -> x.safe(2));
        is("to hide 2", 2, () -> x.toHide(2));
        is("safe 3", 63, () -> x.safe(3));
        is("to hide 3", 0, () -> x.toHide(3));
        checks.noSuch("safe 5", () -> x.safe(5));
        checks.noSuch("toHide -1", () -> x.toHide(-1));
        is("safe 4", 57, () -> x.safe(4));
        WatchLots first = Checks.of("streets 2; round 1; person 9 1;");
        is("in STREET 0 alone", 1, () -> first.toHide(0));
        x.nights(1);
        is("safe in the NIGHT that comes", 62, () -> x.safe(4));
    }

    private void winning() {
        WatchLots x = Checks.of("person 30 0; person 40 1; person 12 2; reserve 6; worth 20 + own * 10;");
        is("more than 30", -1, () -> x.toWin(1, 0));
        is("for the own one", 20, () -> x.toWin(0, 0));
        is("no LOT", -1, () -> x.toWin(0, 1));
        WatchLots y = Checks.of("person 10 0; person 4 1; person 10 2; reserve 6;");
        is("of like ones the least", 11, () -> y.toWin(1, 0));
        is("0 is less than 2", 10, () -> y.toWin(0, 0));
        y.reserve(50);
        is("RESERVE", 50, () -> y.toWin(0, 0));
        is("RESERVE is above what one bids", -1, () -> y.toWin(1, 0));
        WatchLots z = Checks.of("person 9 0; person 9 0; reserve 4; worth coins;");
        is("the LOT ahead of it costs 1 what 0 has", 5, () -> z.toWin(0, 1));
        WatchLots all = Checks.of("bishop 998 0; bishop 999 1; worth coins;");
        is("by 999", 999, () -> all.toWin(0, 0));
        is("never", -1, () -> all.toWin(0, 1));
        WatchLots hidden = Checks.of("person 30 0; person 40 0;");
        is("seen", 31, () -> hidden.toWin(1, 0));
        hidden.bribe(0);
        is("no LOT of who is BRIBING", -1, () -> hidden.toWin(1, 0));
        checks.noSuch("toWin 2", () -> all.toWin(2, 0));
        checks.noSuch("toWin of 2", () -> all.toWin(0, 2));
    }

    private void givingOut() {
        WatchLots x = Checks.of("person 30 0; person 20 0; person 10 0; worth coins;");
        is("all together", 60, () -> x.given(-1));
        is("the first row", 0, () -> x.given(0));
        is("1", 1, () -> x.given(1));
        is("2", 2, () -> x.given(2));
        WatchLots y = Checks.of("person 9 0; person 9 1; person 0 0; worth 5;");
        is("two LOTS", 10, () -> y.given(-1));
        is("0 has the first", 0, () -> y.given(0));
        is("no LOT", -1, () -> y.given(1));
        is("1 has the other", 1, () -> y.given(2));
        WatchLots z = Checks.of("person 0 0; person 0 0; person 8 1;");
        is("one bidder", 8, () -> z.given(-1));
        is("has the first", 2, () -> z.given(0));
        is("nobody has the other", -1, () -> z.given(1));
        WatchLots cross = Checks.of("person 40 0; person 40 0; worth 10 + (not own) * 20;");
        is("crosswise", 60, () -> cross.given(-1));
        is("0 to 1", 1, () -> cross.given(0));
        is("1 to 0", 0, () -> cross.given(1));
        WatchLots unseen = Checks.of("person 90 1; person 80 0;");
        is("0 isn't SEEN", -1, () -> unseen.given(0));
        is("and has 1, with 50 of one's own", 50, () -> unseen.given(-1));
        unseen.wander(0, 0, 0);
        is("each one's own", 100, () -> unseen.given(-1));
        WatchLots alike = Checks.of("person 90 1; person 80 0; worth 5;");
        is("0 has the LOT of 1", 0, () -> alike.given(1));
        WatchLots reserve = Checks.of("person 4 0; reserve 99;");
        is("without RESERVE", 4, () -> reserve.given(-1));
        checks.noSuch("given -2", () -> reserve.given(-2));
        checks.noSuch("given 1", () -> reserve.given(1));
    }

    private void knowing() {
        WatchLots x = Checks.of("streets 3; round 0 0 0 0 0 0 1 1; person 0 0; person 20 1; person 30 2; reserve 20;");
        is("nobody is KNOWN: the least", 0, () -> x.most(0));
        is("richest", 2, () -> x.most(1));
        x.nights(1);
        is("2 KNOWS 0", 1, () -> x.person(2, 2));
        is("gossip 2", 1, () -> x.gossip(2));
        is("gossip 0", 0, () -> x.gossip(0));
        is("famous", 0, () -> x.most(0));
        is("unknown 0", 2, () -> x.unknown(0));
        is("unknown 1", 5, () -> x.unknown(1));
        is("richest, of like ones the least", 1, () -> {
            x.earn(2, 20 - x.person(2, 0));
            return x.most(1);
        });
        WatchLots chain = Checks.of("person 0 0; person 9 1; person 0 2; reserve 1; worth 9;");
        chain.nights(1);
        is("1 KNOWS 0", 1, () -> chain.person(1, 2));
        chain.earn(2, 50);
        chain.wander(0, 0, 3);
        chain.wander(1, 0, 0);
        chain.nights(1);
        is("2 KNOWS 1", 2, () -> chain.person(2, 2));
        is("gossip 2 of both", 3, () -> chain.gossip(2));
        is("gossip 1", 1, () -> chain.gossip(1));
        checks.noSuch("gossip 3", () -> chain.gossip(3));
        checks.noSuch("unknown 3", () -> chain.unknown(3));
        checks.noSuch("most 2", () -> chain.most(2));
        checks.noSuch("most -1", () -> chain.most(-1));
        WatchLots circle = Checks.of("person 9 0; person 9 0; worth (not own) * 9; reserve 0;");
        circle.nights(1);
        is("0 and 1 KNOW one another", 2, () -> circle.person(0, 2));
        is("not oneself", 2, () -> circle.gossip(0));
    }

    private void telling() {
        WatchLots x = Checks.of("person 9 0;");
        is("tell", 1, () -> x.tell(0, 1, true));
        is("tell twice", 2, () -> x.tell(0, 1, true));
        is("tell 12", 3, () -> x.tell(0, 12, false));
        is("tell 0", -1, () -> x.tell(0, 0, true));
        is("tell 13", -1, () -> x.tell(0, 13, true));
        checks.noSuch("tell of 1", () -> x.tell(1, 13, true));
        is("status", 2, () -> x.count(15));
        for (int i = 4; i <= 8; i++) {
            is("tell to " + i, i, () -> x.tell(0, 3, true));
        }
        is("tell the 9th", -1, () -> x.tell(0, 3, true));
        checks.noSuch("tell ahead of it", () -> x.tell(-1, 3, true));
        is("status behind", 3, () -> x.count(15));
        is("told", 8, () -> x.count(11));
        x.forget();
        is("forgotten", 0, () -> x.count(11));
        is("tell anew", 1, () -> x.tell(0, 3, true));
        is("no ACT", 0, () -> x.count(10));
    }

    private void others() {
        WatchLots x = Checks.of("streets 3; round 0 0 0 0 0 0 1 1; person 9 0; person 9 1 2;");
        is("all that are otherwise", 6, () -> x.otherwise(0));
        is("the first", 1, () -> x.otherwise(1));
        is("without", 1, () -> x.otherwise(2));
        x.tell(0, 1, false);
        is("0 elsewhere", 2, () -> x.otherwise(0));
        is("0 in 1", 1, () -> x.otherwise(1));
        is("not as it is", 0, () -> x.otherwise(2));
        is("look: NIGHT 2 tells", 2, () -> x.look(0));
        is("of two kinds", 2, () -> x.look(1));
        x.tell(0, 4, false);
        is("0 in 2", 2, () -> x.otherwise(1));
        is("one", 1, () -> x.otherwise(0));
        is("look at the first", 1, () -> x.look(0));
        is("of one kind", 1, () -> x.look(1));
        x.tell(1, 1, true);
        is("none", 0, () -> x.otherwise(0));
        is("no first", -1, () -> x.otherwise(1));
        is("no look", -1, () -> x.look(0));
        is("of no kind", 0, () -> x.look(1));
        x.forget();
        x.tell(1, 1, true);
        is("place 1 of 1", 2, () -> x.otherwise(0));
        is("100 and so on", 100, () -> x.otherwise(1));
        x.nights(1);
        is("the k-th NIGHT from now on", 1, () -> x.otherwise(2));
        x.forget();
        x.tell(1, 11, true);
        x.tell(1, 12, false);
        is("SEEN in NIGHT 11, not in NIGHT 12", 1, () -> x.otherwise(2));
        WatchLots places = Checks.of("streets 2; person 9 1 1 1 1;");
        places.tell(0, 12, true);
        is("not without", 0, () -> places.otherwise(2));
        is("four places", 4, () -> places.otherwise(0));
        places.wander(0, 0, 0);
        is("as it is", 1, () -> places.otherwise(2));
        places.forget();
        places.tell(0, 1, false);
        is("place 0 back", 1, () -> places.otherwise(0));
        is("is 1", 1, () -> places.otherwise(1));
        WatchLots later = Checks.of("round 1 1 0 1 1 1; person 9 2 2 2 2 2 2;");
        later.tell(0, 1, true);
        is("place 0 in 1 or place 2 in 0", 6, () -> later.otherwise(0));
        is("place 0 in 1 is the first", 1, () -> later.otherwise(1));
        WatchLots third = Checks.of("streets 2; round 1 1 0 1 1 1; person 9 0 0 1 0 0 0;");
        third.tell(0, 1, false);
        is("as it is: no HOUR", 1, () -> third.otherwise(2));
        is("no place may be otherwise", 0, () -> third.otherwise(0));
        third.forget();
        third.tell(0, 1, true);
        third.tell(0, 2, true);
        is("each may", 6, () -> third.otherwise(0));
        third.wander(0, 0, 1);
        third.forget();
        third.tell(0, 1, false);
        is("the one alone", 1, () -> third.otherwise(0));
        is("place 0 to 0", 0, () -> third.otherwise(1));
        third.wander(0, 0, 0);
        third.wander(0, 3, 1);
        is("place 3 to 0", 30, () -> third.otherwise(1));
        WatchLots bribing = Checks.of("person 9 1; person 9 0;");
        bribing.bribe(0);
        bribing.tell(0, 1, true);
        is("who is BRIBING isn't SEEN in the first", 0, () -> bribing.otherwise(0));
        bribing.forget();
        bribing.tell(0, 2, true);
        is("but in the second", 1, () -> bribing.otherwise(0));
        checks.noSuch("otherwise 3", () -> x.otherwise(3));
        checks.noSuch("otherwise -1", () -> x.otherwise(-1));
        checks.noSuch("look 2", () -> x.look(2));
        checks.noSuch("look -1", () -> x.look(-1));
    }

    private void games() {
        // Each is bought by 2, but for 5 COINS isn't.
        WatchLots x = Checks.of("person 10 0; person 10 0; person 99 1; worth 9 - own * 9 + coins / 50;");
        is("both bribe", 1, () -> x.game(0, 1, 0));
        is("11", 11, () -> x.game(0, 1, 1));
        x.bribe(0);
        is("who is BRIBING has 0 alone", 1, () -> x.game(0, 1, 1));
        is("from the other side", 10, () -> x.game(1, 0, 1));
        WatchLots safe = Checks.of("person 10 1; person 10 2;");
        is("nobody is SEEN", 1, () -> safe.game(0, 1, 0));
        is("none bribes", 0, () -> safe.game(0, 1, 1));
        WatchLots poor = Checks.of("person 4 0; person 4 0; person 99 1;");
        is("none has 5", 0, () -> poor.game(0, 1, 1));
        is("one couple", 1, () -> poor.game(0, 1, 0));
        // As long as both are SEEN there are two LOTS, and then alone 2 bids.
        WatchLots either = Checks.of("person 10 0; person 10 0; person 99 1; worth (lots = 2) * (not own) * 9;");
        is("one of both bribes", 2, () -> either.game(0, 1, 0));
        is("the first", 1, () -> either.game(0, 1, 1));
        // 0 is bought as long as 1 isn't, and 1 as long as 0 is.
        WatchLots restless = Checks.of("person 10 0; person 12 0; person 99 1;"
                + "worth (theirs < 12 and lots = 2 or theirs = 12 and lots = 1) * (not own) * 50;");
        is("nothing rests", 0, () -> restless.game(0, 1, 0));
        is("no first", -1, () -> restless.game(0, 1, 1));
        checks.illegal("both are one", () -> x.game(1, 1, 0));
        checks.noSuch("what ahead of it", () -> x.game(1, 1, 2));
        checks.noSuch("game 3", () -> x.game(3, 0, 0));
        checks.noSuch("game with -1", () -> x.game(0, -1, 0));
        is("nothing has changed", 1, () -> x.count(8));
    }

    private void yearsBySeed() {
        WatchLots x = Checks.of(THREE);
        is("no NIGHT", 0, () -> x.years(5, 0, 0));
        is("no DARK", 0, () -> x.years(5, 0, 1));
        is("COINS of all", 79, () -> x.years(5, 0, 2));
        for (int bad : new int[] {-1, 41}) {
            checks.illegal("years of " + bad, () -> x.years(5, bad, 0));
            checks.noSuch("what ahead of " + bad, () -> x.years(5, bad, 3));
        }
        checks.noSuch("years what -1", () -> x.years(5, 1, -1));
        // Alone in STREET 0 with the watch, RESERVE 0: each NIGHT that isn't in thick FOG sells one LOT for 0.
        WatchLots one = Checks.of("streets 2; round 0 1; person 9 0 1; reserve 0;");
        int seed = 77;
        int sold = 0;
        int coins = 9;
        int[] walk = {0, 1};
        for (int i = 0; i < 40; i++) {
            seed = seed * 1103515245 + 12345;
            int event = (seed >>> 16 & 32767) % 4;
            if (event == 0) {
                seed = seed * 1103515245 + 12345;
                coins += 20;
            } else if (event == 1) {
                seed = seed * 1103515245 + 12345;
                seed = seed * 1103515245 + 12345;
                int place = (seed >>> 16 & 32767) % 2;
                seed = seed * 1103515245 + 12345;
                walk[place] = (seed >>> 16 & 32767) % 2;
            }
            seed = seed * 1103515245 + 12345;
            boolean meets = walk[0] == 0 || walk[1] == 1;
            sold += meets && (seed >>> 16 & 32767) % 10 < 7 ? 1 : 0;
        }
        is("sold", sold, () -> one.years(77, 40, 0));
        is("dark", 0, () -> one.years(77, 40, 1));
        is("coins", coins, () -> one.years(77, 40, 2));
        one.reserve(99);
        is("none sold", 0, () -> one.years(77, 1, 0));
        is("nothing has changed", 9, () -> one.person(0, 0));
        WatchLots nobody = new WatchLots();
        is("nobody", 0, () -> nobody.years(1, 40, 2));
    }

    private void images() {
        WatchLots x = Checks.of(THREE);
        is("no image", 0, () -> x.restore() ? 1 : 0);
        x.bribe(0);
        x.tell(1, 2, true);
        x.nights(0);
        x.image();
        x.nights(2);
        x.wander(0, 0, 2);
        x.reserve(40);
        x.forget();
        x.tell(0, 0, true);
        x.nights(0);
        x.feed(0, 0, 0, 0, 0);
        is("restore", 1, () -> x.restore() ? 1 : 0);
        is("night", 0, () -> x.count(4));
        is("reserve", 6, () -> x.count(6));
        is("bribing", 1, () -> x.count(8));
        is("acts", 1, () -> x.count(10));
        is("told", 1, () -> x.count(11));
        is("the tape isn't of it", 20, () -> x.count(12));
        is("status 1", 1, () -> x.count(14));
        is("status 2", 0, () -> x.count(15));
        is("walk", 0, () -> x.walk(0, 0));
        is("undo behind it", 0, x::undo);
        is("coins", 30, () -> x.person(0, 0));
        is("restore again", 1, () -> x.restore() ? 1 : 0);
        is("acts again", 1, () -> x.count(10));
        x.undo();
        x.image();
        x.nights(1);
        x.restore();
        is("another image in its place", 0, () -> x.count(10));
    }

    private void wardBehindWard() {
        String all = "streets 5; path 0 4; round 1 2 4; person 9 4 1; bishop 8 2; fog 3 4; reserve 7; worth 1;";
        WatchLots x = Checks.of(all);
        is("once more", 0, () -> Checks.tell(x, all));
        is("PEOPLE", 2, () -> x.count(2));
        is("PATHS", 1, () -> x.count(1));
        is("a fault", 5, () -> Checks.tell(x, "round 0; person 5 0; reserve 3; fog 1; fog 2;"));
        is("PEOPLE stay", 2, () -> x.count(2));
        is("THE ROUND stays", 3, () -> x.count(3));
        is("FOG stays", 3, () -> x.count(5));
        is("RESERVE stays", 7, () -> x.count(6));
        is("STREETS stay", 5, () -> x.count(0));
        is("paths stay", 1, () -> x.paths(4));
        is("WORTH stays, and a bishop bids 8", 9, () -> x.given(-1));
        is("watch stays", 4, () -> x.watch(1, 2));
        is("a bishop stays", 1, () -> x.person(1, 3));
        is("nothing", 0, () -> x.ward(0));
        is("STREETS", 4, () -> x.count(0));
        is("no PATH", 0, () -> x.paths(0));
        is("THE ROUND is 0 alone", 63, () -> x.lantern(0));
        is("no FOG", 0, () -> x.count(5));
        is("PEOPLE anew", 0, () -> Checks.tell(x, "person 90 0; person 90 0;"));
        is("no WORTH", 100, () -> x.given(-1));
        is("no bishop", 0, () -> x.person(1, 3));
        is("nobody KNOWN", 0, () -> x.person(0, 2));
    }

    /** 6 by k MOD 7 is 3 and k MOD 8 is 7 in NIGHT 39 and then in NIGHT 95. */
    private void farNights() {
        WatchLots x = Checks.of("round 0 0 0 1 0 0 0; fog 7 8 9 7 8 9 7 6; person 9 1 2 2 2 2 2;");
        is("first in the 40th", 40, () -> x.first(0));
        is("no secret", 0, x::secret);
        is("lots 40", 1, () -> x.lots(40));
        is("haunt 40", 1, () -> x.haunt(40));
        is("haunt 39", -1, () -> x.haunt(39));
        is("sold 40", 0, () -> x.sold(0, 40, 0));
        x.nights(20);
        x.nights(20);
        is("not again in 40", -1, () -> x.first(0));
        is("secret", 1, x::secret);
        is("its LOT", 0, () -> x.count(7));
        is("for RESERVE", 4, () -> x.person(0, 0));
    }

    private void undoneRows() {
        WatchLots x = Checks.of("person 0 0; person 90 0; person 50 1 2; reserve 60; worth 70;");
        x.nights(1);
        is("1 KNOWS 0", 1, () -> x.person(1, 2));
        is("LOT 1 in the DARK", 1, () -> x.count(7));
        x.wander(2, 1, 3);
        x.nights(1);
        is("more in the DARK", 3, () -> x.count(7));
        x.wander(2, 0, 0);
        x.image();
        is("undo wander", 3, x::undo);
        is("walk of 2", 1, () -> x.walk(2, 0));
        is("undo nights", 2, x::undo);
        is("1 in the DARK", 1, () -> x.count(7));
        is("1 KNOWS 0 still", 1, () -> x.person(1, 2));
        is("undo wander", 1, x::undo);
        is("walk of 2", 2, () -> x.walk(2, 1));
        is("undo nights", 0, x::undo);
        is("none in the DARK", 0, () -> x.count(7));
        is("1 KNOWS nobody", 0, () -> x.person(1, 2));
        x.tell(0, 1, false);
        is("restore", 1, () -> x.restore() ? 1 : 0);
        is("nothing is TOLD", 1, () -> x.otherwise(2));
        is("its ACTS are back", 3, x::undo);
        is("walk of 2 by them", 1, () -> x.walk(2, 0));
        x.tell(0, 2, false);
        x.image();
        x.forget();
        x.tell(2, 1, true);
        x.restore();
        is("TOLD is back", 1, () -> x.count(11));
        is("as it was", 3, () -> x.otherwise(0));
    }

    private void sevenPeople() {
        WatchLots x = Checks.of("streets 2;" + "person 90 0;".repeat(7) + "worth 10 + own;");
        is("look: each may be away", 7, () -> x.look(1));
        is("in all NIGHTS", 1, () -> x.look(0));
        is("all LOTS", 127, () -> x.lots(1));
        is("given", 77, () -> x.given(-1));
        is("the last one's", 6, () -> x.given(6));
        is("sold", 6, () -> x.sold(6, 1, 0));
        is("COINS of all", 630, () -> x.count(9));
        is("unknown", 63, () -> x.unknown(6));
        is("bribe", 85, () -> x.bribe(6));
        is("bribing", 64, () -> x.count(8));
    }

    private void lookFar() {
        // NIGHTS 4 and 12 alone are without thick FOG; the watch is in STREET 1 in HOUR 0 of the 12th, else in 0.
        WatchLots x = Checks.of("streets 3; round 0 0 0 1 0 0 0; fog 9 9 9 0 9 9 9 9;"
                + "person 90 1 2 2 2 2 2;".repeat(7));
        is("of like ones the first", 4, () -> x.look(0));
        for (int who = 0; who < 7; who++) {
            x.tell(who, 4, false);
        }
        is("the 12th", 12, () -> x.look(0));
        is("all, or without one", 8, () -> x.look(1));
        // NIGHTS 1 and 9; STREET 3 is of the first one's round alone.
        WatchLots y = Checks.of("round 0 0 0 0 0 3 0; fog 0 9 9 9 9 9 9 9; person 90 2;");
        y.tell(0, 9, false);
        is("the first", 1, () -> y.look(0));
        is("SEEN or not", 2, () -> y.look(1));
        is("to 1 or to 3", 2, () -> y.otherwise(0));
    }

    private void imageOfRows() {
        WatchLots x = Checks.of("fog 0 9; person 9 0;");
        x.nights(3);
        x.earn(0, 50);
        x.tell(0, 2, true);
        is("so it is", 1, () -> x.otherwise(2));
        x.image();
        x.undo();
        x.undo();
        x.reserve(90);
        x.wander(0, 0, 3);
        x.forget();
        x.tell(0, 2, false);
        x.tell(0, 1, true);
        x.restore();
        is("ACTS", 2, () -> x.count(10));
        is("as it was TOLD", 1, () -> x.otherwise(2));
        is("undo earn", 1, x::undo);
        is("the NIGHT ahead of it", 3, () -> x.count(4));
        is("COINS ahead of it", 4, () -> x.person(0, 0));
        is("RESERVE ahead of it", 5, () -> x.count(6));
        is("undo nights", 0, x::undo);
        is("the first NIGHT", 0, () -> x.count(4));
        is("the WALK", 0, () -> x.walk(0, 0));
        is("its COINS", 9, () -> x.person(0, 0));
        x.forget();
        x.tell(0, 1, true);
        x.image();
        x.forget();
        x.tell(0, 2, true);
        x.restore();
        is("of the first NIGHT", 1, () -> x.otherwise(2));
    }
}
