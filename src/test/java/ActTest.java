import java.util.function.IntSupplier;

/** ACTS, sentence by sentence: each at its bounds and one beyond, how many are kept, and how each is UNDONE. */
final class ActTest {
    private static final int[] FAR = {-1, Integer.MIN_VALUE, Integer.MAX_VALUE};

    private final Checks checks = new Checks();

    private ActTest() {
    }

    public static void main(String[] args) {
        ActTest test = new ActTest();
        test.nightsByBounds();
        test.lastNight();
        test.bribesByCoins();
        test.bribesOnce();
        test.wandersAnywhere();
        test.wandersNowhere();
        test.earnsByBounds();
        test.earnsToTheMost();
        test.reserveByBounds();
        test.keptActs();
        test.whatIsAnAct();
        test.undoneNights();
        test.undoneBribe();
        test.undoneWander();
        test.undoneEarn();
        test.undoneReserve();
        test.undoneInTurn();
        test.oldestKept();
        test.undoLeaves();
        test.checks.end();
    }

    private void is(String what, int want, IntSupplier call) {
        checks.is(what, want, call);
    }

    /** NIGHTS go by (1 to 20). */
    private void nightsByBounds() {
        for (int many = -1; many <= 22; many++) {
            WatchLots x = Checks.of("person 9 1;");
            int n = many;
            boolean goes = n >= 1 && n <= 20;
            is("nights " + n, goes ? n : -1, () -> x.nights(n));
            is("NIGHT behind " + n, goes ? n : 0, () -> x.count(4));
            is("STATUS behind " + n, goes ? 0 : 1, () -> x.count(14));
            is("ACTS behind " + n, goes ? 1 : 0, () -> x.count(10));
        }
        WatchLots far = new WatchLots();
        for (int bad : FAR) {
            is("nights " + bad, -1, () -> far.nights(bad));
        }
        is("STATUS of these", 3, () -> far.count(14));
    }

    private static WatchLots at(int night) {
        WatchLots x = Checks.of("person 9 1;");
        for (int i = 0; i < night / 20; i++) {
            x.nights(20);
        }
        if (night % 20 > 0) {
            x.nights(night % 20);
        }
        return x;
    }

    /** NONE: it would be above 999. */
    private void lastNight() {
        for (int night = 975; night <= 999; night++) {
            for (int many : new int[] {1, 2, 19, 20}) {
                WatchLots x = at(night);
                int to = night + many;
                int is = to <= 999 ? to : night;
                is("from " + night + " to " + to, to <= 999 ? to : -1, () -> x.nights(many));
                is("it is " + is, is, () -> x.count(4));
                is("STATUS behind " + to, to <= 999 ? 0 : 1, () -> x.count(14));
            }
        }
    }

    /** A PERSON BRIBES the watch (for 5 COINS): NONE, if one hasn't 5 COINS. */
    private void bribesByCoins() {
        for (int coins : new int[] {0, 1, 4, 5, 6, 998, 999}) {
            WatchLots x = Checks.of("person 9 0; person " + coins + " 0;");
            boolean can = coins >= 5;
            is("bribe with " + coins, can ? coins - 5 : -1, () -> x.bribe(1));
            is("COINS then", can ? coins - 5 : coins, () -> x.person(1, 0));
            is("BRIBING with " + coins, can ? 2 : 0, () -> x.count(8));
            is("STATUS with " + coins, can ? 0 : 1, () -> x.count(14));
            is("ACTS with " + coins, can ? 1 : 0, () -> x.count(10));
            is("COINS of the other one", 9, () -> x.person(0, 0));
        }
    }

    /** NONE, if one is BRIBING; in the next NIGHT one can again. */
    private void bribesOnce() {
        WatchLots x = Checks.of("reserve 99;" + "person 50 0;".repeat(7));
        for (int who = 0; who < 7; who++) {
            int p = who;
            is("bribe " + who, 45, () -> x.bribe(p));
            is("all so far", (2 << who) - 1, () -> x.count(8));
            is("bribe twice " + who, -1, () -> x.bribe(p));
            is("still 45", 45, () -> x.person(p, 0));
        }
        is("STATUS", 7, () -> x.count(14));
        is("ACTS", 7, () -> x.count(10));
        x.nights(1);
        is("again", 40, () -> x.bribe(6));
        is("alone", 64, () -> x.count(8));
    }

    /** A place of a WALK becomes another STREET: as it was. */
    private void wandersAnywhere() {
        for (int place = 0; place < 6; place++) {
            for (int street = 0; street < 8; street++) {
                WatchLots x = Checks.of("streets 8; person 9 7; person 9 1 2 3 4 5 6; person 9 7 7 7 7 7 7;");
                int was = place + 1;
                int p = place;
                int s = street;
                is("wander " + p + " to " + s, was == s ? -1 : was, () -> x.wander(1, p, s));
                for (int other = 0; other < 6; other++) {
                    int o = other;
                    is("place " + o, o == p ? s : o + 1, () -> x.walk(1, o));
                    is("of another one", 7, () -> x.walk(2, o));
                }
                is("STATUS", was == s ? 1 : 0, () -> x.count(14));
                is("ACTS", was == s ? 0 : 1, () -> x.count(10));
                is("places", 6, () -> x.person(1, 1));
                is("the first one's", 7, () -> x.walk(0, 0));
            }
        }
    }

    /** NoSuchElementException (ahead): no such PERSON, place, STREET. */
    private void wandersNowhere() {
        WatchLots x = Checks.of("streets 3; person 9 1 2; person 9 2;");
        for (int bad : new int[] {-1, 2, Integer.MIN_VALUE, Integer.MAX_VALUE}) {
            checks.noSuch("PERSON " + bad, () -> x.wander(bad, 0, 1));
            checks.noSuch("place " + bad, () -> x.wander(0, bad, 1));
        }
        checks.noSuch("place 1 of one", () -> x.wander(1, 1, 2));
        for (int bad : new int[] {-1, 3, 4, 8, Integer.MIN_VALUE, Integer.MAX_VALUE}) {
            checks.noSuch("STREET " + bad, () -> x.wander(0, 0, bad));
        }
        is("not counted", 0, () -> x.count(14));
        is("no ACT", 0, () -> x.count(10));
        is("to the first STREET", 1, () -> x.wander(0, 0, 0));
        is("to the last STREET", 0, () -> x.wander(0, 0, 2));
    }

    /** EARNS COINS (1 to 99). */
    private void earnsByBounds() {
        for (int coins : new int[] {-1, 0, 1, 2, 98, 99, 100, 101, Integer.MIN_VALUE, Integer.MAX_VALUE}) {
            WatchLots x = Checks.of("person 9 0; person 7 0;");
            boolean does = coins >= 1 && coins <= 99;
            is("earn " + coins, does ? 7 + coins : -1, () -> x.earn(1, coins));
            is("COINS", does ? 7 + coins : 7, () -> x.person(1, 0));
            is("STATUS", does ? 0 : 1, () -> x.count(14));
            is("ACTS", does ? 1 : 0, () -> x.count(10));
            is("the other one's", 9, () -> x.person(0, 0));
        }
    }

    /** 999 at most. */
    private void earnsToTheMost() {
        int[][] rows = {{900, 98, 998}, {900, 99, 999}, {901, 99, 999}, {950, 99, 999}, {998, 1, 999}, {998, 2, 999},
            {999, 1, 999}, {999, 99, 999}, {997, 1, 998}};
        for (int[] r : rows) {
            WatchLots x = Checks.of("person " + r[0] + " 0;");
            is(r[0] + " and " + r[1], r[2], () -> x.earn(0, r[1]));
            is("COINS", r[2], () -> x.person(0, 0));
            is("an ACT all the same", 1, () -> x.count(10));
            is("no STATUS", 0, () -> x.count(14));
            x.undo();
            is("UNDONE", r[0], () -> x.person(0, 0));
        }
    }

    /** RESERVE becomes another (0 to 99): as it was. */
    private void reserveByBounds() {
        for (int coins : new int[] {-1, 0, 1, 98, 99, 100, 101, Integer.MIN_VALUE, Integer.MAX_VALUE}) {
            WatchLots x = Checks.of("reserve 44;");
            boolean does = coins >= 0 && coins <= 99;
            is("reserve " + coins, does ? 44 : -1, () -> x.reserve(coins));
            is("RESERVE", does ? coins : 44, () -> x.count(6));
            is("STATUS", does ? 0 : 1, () -> x.count(14));
            is("ACTS", does ? 1 : 0, () -> x.count(10));
        }
    }

    private static void act(WatchLots x, int kind, int turn) {
        switch (kind) {
            case 0 -> x.nights(1);
            case 1 -> x.wander(0, 0, 1 + turn % 2);
            case 2 -> x.earn(0, 1);
            default -> x.reserve(turn);
        }
    }

    /** At most 40 are kept, the latest ones. */
    private void keptActs() {
        for (int many : new int[] {0, 1, 39, 40, 41, 42, 79, 80, 81}) {
            for (int kind = 0; kind < 4; kind++) {
                WatchLots x = Checks.of("person 500 3;");
                for (int turn = 0; turn < many; turn++) {
                    act(x, kind, turn);
                }
                int kept = Math.min(40, many);
                String told = many + " of kind " + kind;
                is("ACTS, " + told, kept, () -> x.count(10));
                for (int left = kept - 1; left >= 0; left--) {
                    is("undo, " + told, left, x::undo);
                    is("left, " + told, left, () -> x.count(10));
                }
                is("none, " + told, -1, x::undo);
                is("none again, " + told, -1, x::undo);
                is("STATUS, " + told, 0, () -> x.count(14));
                int lost = many - kept;
                is("NIGHT, " + told, kind == 0 ? lost : 0, () -> x.count(4));
                is("WALK, " + told, kind == 1 && lost > 0 ? 1 + (lost - 1) % 2 : 3, () -> x.walk(0, 0));
                is("COINS, " + told, kind == 2 ? 500 + lost : 500, () -> x.person(0, 0));
                is("RESERVE, " + told, kind == 3 && lost > 0 ? lost - 1 : 5, () -> x.count(6));
            }
        }
    }

    /** What its call doesn't refuse is one, also where all is as it was. */
    private void whatIsAnAct() {
        WatchLots x = Checks.of("person 999 0; reserve 7;");
        is("RESERVE as it is", 7, () -> x.reserve(7));
        is("one", 1, () -> x.count(10));
        is("EARNS at 999", 999, () -> x.earn(0, 5));
        is("two", 2, () -> x.count(10));
        x.bribe(0);
        is("three", 3, () -> x.count(10));
        x.bribe(0);
        x.earn(0, 0);
        x.reserve(-1);
        x.nights(0);
        x.wander(0, 0, 0);
        is("refused ones are none", 3, () -> x.count(10));
        is("but are counted", 5, () -> x.count(14));
        x.nights(20);
        is("20 NIGHTS are one", 4, () -> x.count(10));
        x.tell(0, 1, true);
        x.forget();
        x.image();
        x.restore();
        x.feed(0, 0, 0, 0, 0);
        x.years(1, 40, 0);
        is("nothing else is one", 4, () -> x.count(10));
        is("undo", 3, x::undo);
        is("undo", 2, x::undo);
        is("undo", 1, x::undo);
        is("undo", 0, x::undo);
        is("undo", -1, x::undo);
        WatchLots nobody = new WatchLots();
        nobody.nights(1);
        is("a NIGHT of nobody", 1, () -> nobody.count(10));
    }

    /** All that a NIGHT has changed: COINS, KNOWS, DARK, who is BRIBING, the NIGHT; the rest is as it was. */
    private void undoneNights() {
        for (int many : new int[] {1, 2, 20}) {
            WatchLots x = Checks.of("person 0 0; person 90 0; person 50 1 2; person 50 0; reserve 30; worth 70;");
            x.nights(2);
            x.bribe(3);
            int[] was = {x.count(4), x.count(6), x.count(7), x.count(8), x.count(9), x.person(1, 2), x.person(3, 0)};
            checks.due("NIGHT 2, DARK of it, 3 is BRIBING", true, was[0] == 2 && was[2] > 0 && was[3] == 8);
            x.nights(many);
            is("BRIBING is over", 0, () -> x.count(8));
            is("more in the DARK", 1, () -> x.count(7) > was[2] ? 1 : 0);
            is("undo", 2, x::undo);
            is("NIGHT", was[0], () -> x.count(4));
            is("RESERVE", was[1], () -> x.count(6));
            is("DARK", was[2], () -> x.count(7));
            is("BRIBING", was[3], () -> x.count(8));
            is("COINS of all", was[4], () -> x.count(9));
            is("KNOWS", was[5], () -> x.person(1, 2));
            is("COINS", was[6], () -> x.person(3, 0));
            is("WALK", 2, () -> x.walk(2, 1));
        }
        WatchLots y = Checks.of("person 0 0; person 90 1; reserve 0;");
        y.nights(3);
        is("1 KNOWS 0", 1, () -> y.person(1, 2));
        is("undo", 0, y::undo);
        is("KNOWS nobody again", 0, () -> y.person(1, 2));
        is("no NIGHT", 0, () -> y.count(4));
    }

    private void undoneBribe() {
        WatchLots x = Checks.of("person 50 0;".repeat(7));
        x.bribe(2);
        x.bribe(6);
        is("BRIBING", 68, () -> x.count(8));
        is("undo", 1, x::undo);
        is("2 alone", 4, () -> x.count(8));
        is("COINS of 6", 50, () -> x.person(6, 0));
        is("COINS of 2", 45, () -> x.person(2, 0));
        is("6 is SEEN", 63, () -> x.person(6, 4));
        is("6 can again", 45, () -> x.bribe(6));
    }

    /** Of each of seven PEOPLE, at each of six places. */
    private void undoneWander() {
        for (int who = 0; who < 7; who++) {
            for (int place = 0; place < 6; place++) {
                WatchLots x = Checks.of("streets 8;" + "person 50 1 2 3 4 5 6;".repeat(7));
                int p = who;
                int q = place;
                x.wander(p, q, 7);
                x.earn(p, 1);
                x.wander(p, q, 0);
                x.reserve(9);
                is("undo reserve", 3, x::undo);
                is("0 still", 0, () -> x.walk(p, q));
                is("undo wander", 2, x::undo);
                is("7", 7, () -> x.walk(p, q));
                is("51 still", 51, () -> x.person(p, 0));
                is("undo earn", 1, x::undo);
                is("50", 50, () -> x.person(p, 0));
                is("7 still", 7, () -> x.walk(p, q));
                is("undo wander", 0, x::undo);
                is("as it was", q + 1, () -> x.walk(p, q));
                is("none", -1, x::undo);
            }
        }
    }

    private void undoneEarn() {
        for (int who = 0; who < 7; who++) {
            WatchLots x = Checks.of("person 50 0;".repeat(7));
            int p = who;
            x.earn(p, 9);
            x.earn(p, 90);
            is("149", 149, () -> x.person(p, 0));
            is("undo", 1, x::undo);
            is("59", 59, () -> x.person(p, 0));
            is("undo", 0, x::undo);
            is("all", 350, () -> x.count(9));
        }
    }

    private void undoneReserve() {
        WatchLots x = Checks.of("reserve 44;");
        x.reserve(0);
        x.reserve(99);
        is("undo", 1, x::undo);
        is("0", 0, () -> x.count(6));
        is("undo", 0, x::undo);
        is("44", 44, () -> x.count(6));
    }

    /** The last one first; ACTS go on from there. */
    private void undoneInTurn() {
        WatchLots x = Checks.of("person 50 0 1; person 60 1;");
        x.reserve(10);
        x.earn(1, 30);
        x.wander(0, 1, 3);
        x.bribe(0);
        x.nights(1);
        is("undo nights", 4, x::undo);
        is("0 is BRIBING", 1, () -> x.count(8));
        is("undo bribe", 3, x::undo);
        is("nobody is", 0, () -> x.count(8));
        is("3 still", 3, () -> x.walk(0, 1));
        x.earn(0, 1);
        is("another one", 4, () -> x.count(10));
        is("undo it", 3, x::undo);
        is("undo wander", 2, x::undo);
        is("1 again", 1, () -> x.walk(0, 1));
        is("90 still", 90, () -> x.person(1, 0));
        is("undo earn", 1, x::undo);
        is("60 again", 60, () -> x.person(1, 0));
        is("10 still", 10, () -> x.count(6));
        is("undo reserve", 0, x::undo);
        is("5 again", 5, () -> x.count(6));
    }

    /** With seven PEOPLE all rows are full: the 41st ACT is kept in whole, and so is the oldest of these. */
    private void oldestKept() {
        WatchLots x = Checks.of("streets 8; reserve 99;" + "person 0 1 2 3 4 5 6;".repeat(7));
        x.nights(3);
        for (int i = 0; i < 7; i++) {
            x.earn(i, 90 + i);
            x.wander(i, 5, i == 6 ? 7 : i);
        }
        x.bribe(6);
        x.reserve(98);
        x.image();
        for (int i = 0; i < 40; i++) {
            x.nights(1);
        }
        for (int i = 39; i >= 0; i--) {
            int left = i;
            is("undo", left, x::undo);
        }
        asKept(x);
        x.restore();
        asKept(x);
        for (int i = 0; i < 30; i++) {
            x.nights(1);
        }
        x.image();
        x.forget();
        for (int i = 0; i < 40; i++) {
            x.earn(0, 1);
        }
        x.restore();
        for (int i = 0; i < 30; i++) {
            x.undo();
        }
        asKept(x);
        for (int i = 0; i < 9; i++) {
            x.undo();
        }
        is("47 less 40 are gone, the eighth is the oldest", 0, x::undo);
        is("ahead of it 2 has earned", 92, () -> x.person(2, 0));
        is("and wandered", 2, () -> x.walk(2, 5));
        is("but 3 hasn't", 0, () -> x.person(3, 0));
        is("nor wandered", 6, () -> x.walk(3, 5));
        is("nobody is BRIBING", 0, () -> x.count(8));
        is("RESERVE", 99, () -> x.count(6));
        is("NIGHT", 3, () -> x.count(4));
    }

    private void asKept(WatchLots x) {
        is("NIGHT", 3, () -> x.count(4));
        is("RESERVE", 98, () -> x.count(6));
        is("BRIBING", 64, () -> x.count(8));
        is("DARK", 0, () -> x.count(7));
        for (int who = 0; who < 7; who++) {
            int p = who;
            is("COINS of " + p, p == 6 ? 91 : 90 + p, () -> x.person(p, 0));
            is("place 0 of " + p, 1, () -> x.walk(p, 0));
            is("place 5 of " + p, p == 6 ? 7 : p, () -> x.walk(p, 5));
            is("KNOWS of " + p, 0, () -> x.person(p, 2));
        }
    }

    /** What is TOLD, STATUS, the tape, the latest FAULT and the IMAGE are not UNDONE. */
    private void undoLeaves() {
        WatchLots x = Checks.of("person 50 0;");
        Checks.tell(x, "fog x;");
        x.earn(0, 1);
        x.tell(0, 1, true);
        x.tell(0, 0, true);
        x.earn(0, 0);
        x.feed(0, 0, 0, 0, 0);
        x.image();
        is("undo", 0, x::undo);
        is("TOLD", 1, () -> x.count(11));
        is("the tape", 20, () -> x.count(12));
        is("STATUS 0", 1, () -> x.count(13));
        is("STATUS 1", 1, () -> x.count(14));
        is("STATUS 2", 1, () -> x.count(15));
        is("the FAULT's place", 4, x::fault);
        is("none", -1, x::undo);
        is("STATUS 1 as it was", 1, () -> x.count(14));
        is("the IMAGE", 1, () -> x.restore() ? 1 : 0);
        is("its ACT", 1, () -> x.count(10));
        is("51", 51, () -> x.person(0, 0));
    }
}
