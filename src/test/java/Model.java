import java.util.ArrayList;
import java.util.HashSet;
import java.util.List;
import java.util.NoSuchElementException;
import java.util.Set;
import java.util.TreeMap;

/** The document a second time, written for plainness alone, to hold the class against. */
final class Model {
    static final int NONE = -1;

    private final List<Integer> tape = new ArrayList<>();
    private int faultPlace = NONE;
    private ModelText text = new ModelText("");
    private State now;
    private State image = null;

    private static final class Person {
        int coins;
        boolean bishop;
        boolean bribing;
        List<Integer> walk = new ArrayList<>();
        Set<Integer> knows = new HashSet<>();

        Person copy() {
            Person p = new Person();
            p.coins = coins;
            p.bishop = bishop;
            p.bribing = bribing;
            p.walk = new ArrayList<>(walk);
            p.knows = new HashSet<>(knows);
            return p;
        }
    }

    private static final class State {
        int night = 0;
        int dark = 0;
        int reserve;
        List<Person> people = new ArrayList<>();
        List<State> acts = new ArrayList<>();
        List<int[]> told = new ArrayList<>();
        int[] status = new int[3];

        /** Without ACTS, what is TOLD, and STATUS. */
        State town() {
            State s = new State();
            s.night = night;
            s.dark = dark;
            s.reserve = reserve;
            for (Person p : people) {
                s.people.add(p.copy());
            }
            return s;
        }

        State whole() {
            State s = town();
            s.acts = new ArrayList<>(acts);
            s.told = new ArrayList<>(told);
            s.status = status.clone();
            return s;
        }
    }

    Model() {
        anew();
    }

    private void anew() {
        int[] status = now == null ? new int[3] : now.status;
        now = new State();
        now.status = status;
        now.reserve = text.reserve;
        for (ModelText.Someone s : text.people) {
            Person p = new Person();
            p.coins = s.coins();
            p.bishop = s.bishop();
            p.walk = new ArrayList<>(s.walk());
            now.people.add(p);
        }
        image = null;
    }

    private Person who(int person) {
        if (person < 0 || person >= now.people.size()) {
            throw new NoSuchElementException();
        }
        return now.people.get(person);
    }

    private void street(int street) {
        if (street < 0 || street >= text.streets) {
            throw new NoSuchElementException();
        }
    }

    private static void what(int what, int many) {
        if (what < 0 || what >= many) {
            throw new NoSuchElementException();
        }
    }

    private static void range(int n, int low, int high) {
        if (n < low || n > high) {
            throw new IllegalArgumentException();
        }
    }

    private int watchIn(int night, int hour) {
        return text.round.get((6 * night + hour) % text.round.size());
    }

    private int fogIn(int night) {
        return text.fog.get(night % text.fog.size());
    }

    private static int streetOf(Person p, int hour) {
        return p.walk.get(hour % p.walk.size());
    }

    private List<Integer> seen(State s, Person p, int fog) {
        List<Integer> hours = new ArrayList<>();
        for (int h = 0; h < 6; h++) {
            if (watchIn(s.night, h) == streetOf(p, h) && fog < 7 && !p.bribing) {
                hours.add(h);
            }
        }
        return hours;
    }

    /** One NIGHT's LOTS: by PERSON the HOURS, who buys, and for how much. */
    private static final class Night {
        TreeMap<Integer, List<Integer>> lots = new TreeMap<>();
        TreeMap<Integer, Integer> buyer = new TreeMap<>();
        TreeMap<Integer, Integer> price = new TreeMap<>();
    }

    private Night lotsOf(State s, int fog) {
        Night night = new Night();
        for (int i = 0; i < s.people.size(); i++) {
            List<Integer> hours = seen(s, s.people.get(i), fog);
            if (!hours.isEmpty()) {
                night.lots.put(i, hours);
            }
        }
        return night;
    }

    private int bid(State s, Night night, int i, int lot) {
        Person p = s.people.get(i);
        Person other = s.people.get(lot);
        if (i == lot && p.bishop) {
            return p.coins;
        }
        List<Integer> hours = night.lots.get(lot);
        int value;
        if (text.worth == null) {
            value = (i == lot ? 20 : 3) + 5 * hours.size() - (p.knows.contains(lot) ? 9 : 0);
        } else {
            value = text.worth.of(name -> switch (name) {
                case "own" -> i == lot ? 1 : 0;
                case "coins" -> p.coins;
                case "theirs" -> other.coins;
                case "knows" -> p.knows.contains(lot) ? 1 : 0;
                case "hours" -> hours.size();
                case "street" -> streetOf(other, hours.get(0));
                case "lots" -> night.lots.size();
                case "night" -> s.night;
                default -> throw new IllegalStateException(name);
            });
        }
        return value < 0 ? 0 : value > p.coins ? p.coins : value;
    }

    private Night pass(State s, int fog) {
        Night night = lotsOf(s, fog);
        for (int lot : night.lots.keySet()) {
            List<Integer> bids = new ArrayList<>();
            for (int i = 0; i < s.people.size(); i++) {
                bids.add(bid(s, night, i, lot));
            }
            int top = bids.stream().max(Integer::compare).get();
            int buyer = bids.indexOf(top);
            if (top == 0 || top < s.reserve) {
                s.dark++;
                continue;
            }
            bids.remove(buyer);
            int price = s.reserve;
            for (int b : bids) {
                price = Math.max(price, b);
            }
            night.buyer.put(lot, buyer);
            night.price.put(lot, price);
            s.people.get(buyer).coins -= price;
            if (buyer != lot) {
                s.people.get(buyer).knows.add(lot);
            }
        }
        for (Person p : s.people) {
            p.bribing = false;
        }
        s.night++;
        return night;
    }

    private Night pass(State s) {
        return pass(s, fogIn(s.night));
    }

    private State ahead(int nights) {
        State s = now.town();
        for (int i = 0; i < nights; i++) {
            pass(s);
        }
        return s;
    }

    private static int bits(Iterable<Integer> set) {
        int b = 0;
        for (int i : set) {
            b |= 1 << i;
        }
        return b;
    }

    private int refused(int which) {
        now.status[which]++;
        return NONE;
    }

    private void act() {
        now.acts.add(now.town());
        if (now.acts.size() > 40) {
            now.acts.remove(0);
        }
    }

    int feed(int a, int b, int c, int d, int e) {
        if (tape.size() + 20 > 700) {
            return NONE;
        }
        for (int n : new int[] {a, b, c, d, e}) {
            tape.add(n >>> 24);
            tape.add(n >>> 16 & 255);
            tape.add(n >>> 8 & 255);
            tape.add(n & 255);
        }
        return tape.size();
    }

    int ward(int n) {
        range(n, 0, tape.size());
        StringBuilder b = new StringBuilder();
        for (int i = 0; i < n; i++) {
            b.append((char) (int) tape.get(i));
        }
        tape.clear();
        ModelText read = new ModelText(b.toString());
        faultPlace = read.faultPlace;
        if (read.fault != 0) {
            now.status[0]++;
            return read.fault;
        }
        text = read;
        anew();
        return 0;
    }

    int fault() {
        return faultPlace;
    }

    int count(int w) {
        what(w, 16);
        int bribing = 0;
        int coins = 0;
        for (int i = 0; i < now.people.size(); i++) {
            bribing |= now.people.get(i).bribing ? 1 << i : 0;
            coins += now.people.get(i).coins;
        }
        int[] all = {text.streets, text.paths.size(), now.people.size(), text.round.size(), now.night, fogIn(now.night),
            now.reserve, now.dark, bribing, coins, now.acts.size(), now.told.size(), tape.size(),
            now.status[0], now.status[1], now.status[2]};
        return all[w];
    }

    private boolean joined(int a, int b) {
        return text.paths.contains(List.of(a, b)) || text.paths.contains(List.of(b, a));
    }

    int paths(int s) {
        street(s);
        int b = 0;
        for (int o = 0; o < text.streets; o++) {
            b |= joined(s, o) ? 1 << o : 0;
        }
        return b;
    }

    int person(int person, int w) {
        Person p = who(person);
        what(w, 5);
        return switch (w) {
            case 0 -> p.coins;
            case 1 -> p.walk.size();
            case 2 -> bits(p.knows);
            case 3 -> p.bishop ? 1 : 0;
            default -> bits(seen(now, p, fogIn(now.night)));
        };
    }

    int walk(int person, int place) {
        Person p = who(person);
        what(place, p.walk.size());
        return p.walk.get(place);
    }

    int nights(int many) {
        if (many < 1 || many > 20 || now.night + many > 999) {
            return refused(1);
        }
        act();
        for (int i = 0; i < many; i++) {
            pass(now);
        }
        return now.night;
    }

    private static boolean mayBribe(Person p) {
        return !p.bribing && p.coins >= 5;
    }

    private static void startBribing(Person p) {
        p.coins -= 5;
        p.bribing = true;
    }

    int bribe(int person) {
        Person p = who(person);
        if (!mayBribe(p)) {
            return refused(1);
        }
        act();
        startBribing(p);
        return p.coins;
    }

    int wander(int person, int place, int s) {
        int was = walk(person, place);
        street(s);
        if (was == s) {
            return refused(1);
        }
        act();
        return who(person).walk.set(place, s);
    }

    int earn(int person, int coins) {
        Person p = who(person);
        if (coins < 1 || coins > 99) {
            return refused(1);
        }
        act();
        p.coins = Math.min(999, p.coins + coins);
        return p.coins;
    }

    int reserve(int coins) {
        if (coins < 0 || coins > 99) {
            return refused(1);
        }
        act();
        int was = now.reserve;
        now.reserve = coins;
        return was;
    }

    int undo() {
        if (now.acts.isEmpty()) {
            return NONE;
        }
        State before = now.acts.remove(now.acts.size() - 1).town();
        before.acts = now.acts;
        before.told = now.told;
        before.status = now.status;
        now = before;
        return now.acts.size();
    }

    int lots(int k) {
        range(k, 1, 40);
        State s = ahead(k - 1);
        return bits(lotsOf(s, fogIn(s.night)).lots.keySet());
    }

    int sold(int person, int k, int w) {
        who(person);
        what(w, 2);
        range(k, 1, 40);
        Night night = pass(ahead(k - 1));
        return (w == 0 ? night.buyer : night.price).getOrDefault(person, NONE);
    }

    int then(int person, int nights, int w) {
        who(person);
        what(w, 2);
        range(nights, 0, 40);
        Person p = ahead(nights).people.get(person);
        return w == 0 ? p.coins : bits(p.knows);
    }

    int dark(int nights) {
        range(nights, 0, 40);
        return ahead(nights).dark;
    }

    int first(int person) {
        who(person);
        for (int k = 1; k <= 40; k++) {
            if ((lots(k) >> person & 1) == 1) {
                return k;
            }
        }
        return NONE;
    }

    int secret() {
        int b = (1 << now.people.size()) - 1;
        for (int k = 1; k <= 40; k++) {
            b &= ~lots(k);
        }
        return b;
    }

    int haunt(int nights) {
        range(nights, 1, 40);
        int[] many = new int[8];
        for (int k = 1; k <= nights; k++) {
            State s = ahead(k - 1);
            for (Person p : s.people) {
                for (int h : seen(s, p, fogIn(s.night))) {
                    many[streetOf(p, h)]++;
                }
            }
        }
        int best = NONE;
        for (int i = 7; i >= 0; i--) {
            if (many[i] > 0 && (best == NONE || many[i] >= many[best])) {
                best = i;
            }
        }
        return best;
    }

    int watch(int k, int hour) {
        range(k, 1, 40);
        range(hour, 0, 5);
        return watchIn(now.night + k - 1, hour);
    }

    int way(int a, int b) {
        street(a);
        street(b);
        return way(a, b, new HashSet<>());
    }

    private int way(int a, int b, Set<Integer> been) {
        if (a == b) {
            return 0;
        }
        been.add(a);
        int best = NONE;
        for (int c = 0; c < text.streets; c++) {
            if (joined(a, c) && !been.contains(c)) {
                int on = way(c, b, been);
                best = on == NONE ? best : best == NONE ? on + 1 : Math.min(best, on + 1);
            }
        }
        been.remove(a);
        return best;
    }

    int sneak(int a, int b) {
        street(a);
        street(b);
        for (int hour = 0; hour < 6; hour++) {
            if (canBe(a, b, hour)) {
                return hour;
            }
        }
        return NONE;
    }

    private boolean canBe(int from, int to, int hour) {
        if (watchIn(now.night, hour) == to) {
            return false;
        }
        if (hour == 0) {
            return from == to;
        }
        for (int c = 0; c < text.streets; c++) {
            if ((c == to || joined(c, to)) && canBe(from, c, hour - 1)) {
                return true;
            }
        }
        return false;
    }

    private boolean isSafe(Person p, int place, int s) {
        for (int h = place; h < 6; h += p.walk.size()) {
            if (watchIn(now.night, h) == s) {
                return false;
            }
        }
        return true;
    }

    int safe(int person) {
        Person p = who(person);
        int b = 0;
        for (int i = 0; i < p.walk.size(); i++) {
            b |= isSafe(p, i, p.walk.get(i)) ? 1 << i : 0;
        }
        return b;
    }

    int toHide(int person) {
        Person p = who(person);
        int many = 0;
        for (int i = 0; i < p.walk.size(); i++) {
            boolean any = false;
            for (int s = 0; s < text.streets; s++) {
                any |= isSafe(p, i, s);
            }
            if (!any) {
                return NONE;
            }
            many += isSafe(p, i, p.walk.get(i)) ? 0 : 1;
        }
        return many;
    }

    int toWin(int person, int other) {
        who(person);
        who(other);
        for (int c = 0; c < 1000; c++) {
            State s = now.town();
            s.people.get(person).coins = c;
            if (pass(s).buyer.getOrDefault(other, NONE) == person) {
                return c;
            }
        }
        return NONE;
    }

    int given(int person) {
        if (person != NONE) {
            who(person);
        }
        Night night = lotsOf(now, fogIn(now.night));
        int[] row = new int[7];
        int[] best = new int[8];
        best[7] = NONE;
        give(night, new ArrayList<>(night.lots.keySet()), 0, row, 0, 0, best);
        if (person == NONE) {
            return best[7];
        }
        return night.lots.containsKey(person) ? best[person] : NONE;
    }

    private void give(Night night, List<Integer> lots, int i, int[] row, int taken, int sum, int[] best) {
        if (i == lots.size()) {
            if (sum > best[7]) {
                System.arraycopy(row, 0, best, 0, 7);
                best[7] = sum;
            }
            return;
        }
        int lot = lots.get(i);
        for (int p = 0; p < now.people.size(); p++) {
            int b = bid(now, night, p, lot);
            if ((taken >> p & 1) == 0 && b > 0) {
                row[lot] = p;
                give(night, lots, i + 1, row, taken | 1 << p, sum + b, best);
            }
        }
        row[lot] = NONE;
        give(night, lots, i + 1, row, taken, sum, best);
    }

    int gossip(int person) {
        who(person);
        Set<Integer> heard = new HashSet<>();
        hear(person, heard);
        heard.remove(person);
        return bits(heard);
    }

    private void hear(int person, Set<Integer> heard) {
        if (heard.add(person)) {
            for (int k : now.people.get(person).knows) {
                hear(k, heard);
            }
        }
    }

    private int knowers(int person) {
        int b = 0;
        for (int i = 0; i < now.people.size(); i++) {
            b |= now.people.get(i).knows.contains(person) ? 1 << i : 0;
        }
        return b;
    }

    int most(int w) {
        what(w, 2);
        int best = NONE;
        int top = 0;
        for (int i = 0; i < now.people.size(); i++) {
            int n = w == 0 ? Integer.bitCount(knowers(i)) : now.people.get(i).coins;
            if (best == NONE || n > top) {
                best = i;
                top = n;
            }
        }
        return best;
    }

    int lantern(int s) {
        street(s);
        int b = 0;
        for (int h = 0; h < 6; h++) {
            b |= watchIn(now.night, h) == s ? 1 << h : 0;
        }
        return b;
    }

    int meet(int a, int b) {
        Person p = who(a);
        Person o = who(b);
        int hours = 0;
        for (int h = 0; h < 6; h++) {
            hours |= streetOf(p, h) == streetOf(o, h) ? 1 << h : 0;
        }
        return hours;
    }

    int spends(int person, int nights) {
        who(person);
        range(nights, 0, 40);
        return now.people.get(person).coins - ahead(nights).people.get(person).coins;
    }

    int unknown(int person) {
        who(person);
        return ((1 << now.people.size()) - 1) & ~knowers(person) & ~(1 << person);
    }

    int tell(int person, int k, boolean seen) {
        who(person);
        if (now.told.size() == 8 || k < 1 || k > 12) {
            return refused(2);
        }
        now.told.add(new int[] {person, k, seen ? 1 : 0});
        return now.told.size();
    }

    private boolean toldIsSo() {
        for (int[] t : now.told) {
            if ((lots(t[1]) >> t[0] & 1) != t[2]) {
                return false;
            }
        }
        return true;
    }

    /** The first one, how many, and by NIGHT the unlike LOTS. */
    private List<Set<Integer>> others(int[] answers) {
        List<Set<Integer>> rows = new ArrayList<>();
        for (int k = 1; k <= 12; k++) {
            rows.add(new HashSet<>());
        }
        answers[0] = NONE;
        for (int p = 0; p < now.people.size(); p++) {
            List<Integer> walk = now.people.get(p).walk;
            for (int i = 0; i < walk.size(); i++) {
                int was = walk.get(i);
                for (int s = 0; s < text.streets; s++) {
                    walk.set(i, s);
                    if (s != was && toldIsSo()) {
                        answers[1]++;
                        answers[0] = answers[0] == NONE ? 100 * p + 10 * i + s : answers[0];
                        for (int k = 1; k <= 12; k++) {
                            rows.get(k - 1).add(lots(k));
                        }
                    }
                }
                walk.set(i, was);
            }
        }
        return rows;
    }

    int otherwise(int w) {
        what(w, 3);
        int[] answers = new int[2];
        others(answers);
        return w == 0 ? answers[1] : w == 1 ? answers[0] : toldIsSo() ? 1 : 0;
    }

    int look(int w) {
        what(w, 2);
        int night = NONE;
        int top = 0;
        List<Set<Integer>> rows = others(new int[2]);
        for (int k = 1; k <= 12; k++) {
            if (rows.get(k - 1).size() > top) {
                top = rows.get(k - 1).size();
                night = k;
            }
        }
        return w == 0 ? night : top;
    }

    void forget() {
        now.told.clear();
    }

    private int[] loses(int a, int b, int x, int y) {
        State s = now.town();
        if (x == 1) {
            startBribing(s.people.get(a));
        }
        if (y == 1) {
            startBribing(s.people.get(b));
        }
        Night night = pass(s);
        int mine = 5 * x + (night.buyer.getOrDefault(a, a) == a ? 0 : 10);
        int theirs = 5 * y + (night.buyer.getOrDefault(b, b) == b ? 0 : 10);
        return new int[] {mine, theirs};
    }

    int game(int a, int b, int w) {
        Person p = who(a);
        Person o = who(b);
        what(w, 2);
        if (a == b) {
            throw new IllegalArgumentException();
        }
        List<Integer> resting = new ArrayList<>();
        for (int x = 0; x <= (mayBribe(p) ? 1 : 0); x++) {
            for (int y = 0; y <= (mayBribe(o) ? 1 : 0); y++) {
                int[] here = loses(a, b, x, y);
                boolean rests = true;
                if (mayBribe(p)) {
                    rests &= loses(a, b, 1 - x, y)[0] >= here[0];
                }
                if (mayBribe(o)) {
                    rests &= loses(a, b, x, 1 - y)[1] >= here[1];
                }
                if (rests) {
                    resting.add(10 * x + y);
                }
            }
        }
        return w == 0 ? resting.size() : resting.isEmpty() ? NONE : resting.get(0);
    }

    private int seed = 0;

    private int draw(int n) {
        seed = seed * 1103515245 + 12345;
        return (seed >> 16 & 0x7fff) % n;
    }

    int years(int from, int n, int w) {
        what(w, 3);
        range(n, 0, 40);
        seed = from;
        State s = now.town();
        int sold = 0;
        for (int i = 0; i < n; i++) {
            int event = draw(4);
            if (event == 0 && !s.people.isEmpty()) {
                Person p = s.people.get(draw(s.people.size()));
                p.coins = Math.min(999, p.coins + 20);
            }
            if (event == 1 && !s.people.isEmpty()) {
                Person p = s.people.get(draw(s.people.size()));
                int place = draw(p.walk.size());
                p.walk.set(place, draw(text.streets));
            }
            sold += pass(s, draw(10)).buyer.size();
        }
        int coins = 0;
        for (Person p : s.people) {
            coins += p.coins;
        }
        return w == 0 ? sold : w == 1 ? s.dark : coins;
    }

    void image() {
        image = now.whole();
    }

    boolean restore() {
        if (image == null) {
            return false;
        }
        now = image.whole();
        return true;
    }
}
