import java.util.NoSuchElementException;

/** The night watch sells what it saw. What each call answers stands in ../shared/DOC.md. */
public final class WatchLots {
    public static final int NONE = -1;

    private static final int TAPE = 700;
    private static final int FEED = 20;
    private static final int STREETS = 8;
    private static final int PATHS = 14;
    private static final int ROUND = 8;
    private static final int PEOPLE = 7;
    private static final int PLACES = 6;
    private static final int FOGS = 8;
    private static final int HOURS = 6;
    private static final int THICK = 7;
    private static final int MOST_COINS = 999;
    private static final int RESERVE = 5;
    private static final int MOST_RESERVE = 99;
    private static final int LAST_NIGHT = 999;
    private static final int BRIBE = 5;
    private static final int BOUGHT = 10;
    private static final int MOST_NIGHTS = 20;
    private static final int MOST_EARNED = 99;
    private static final int ACTS = 40;
    private static final int TOLD = 8;
    private static final int AHEAD = 40;
    private static final int TOLD_AHEAD = 12;
    private static final int MASKS = 1 << PEOPLE;
    private static final int REFUSED_TEXT = 0;
    private static final int REFUSED_ACT = 1;
    private static final int REFUSED_TOLD = 2;

    private final Reader reader = new Reader();
    private Ward plan = new Ward();
    private int faultPlace = NONE;
    private final Book book = new Book();
    private final Book kept = new Book();
    private boolean isKept = false;
    private final Town later = new Town();
    private final Sale sale = new Sale();
    private final Gifts gifts = new Gifts();
    private final Guess guess = new Guess();
    private final Dice dice = new Dice();
    private final int[] losses = new int[4];
    private final int[] otherLosses = new int[4];

    public WatchLots() {
    }

    public int feed(int a, int b, int c, int d, int e) {
        if (reader.taped > TAPE - FEED) {
            return NONE;
        }
        reader.append(a);
        reader.append(b);
        reader.append(c);
        reader.append(d);
        reader.append(e);
        return reader.taped;
    }

    public int ward(int n) throws IllegalArgumentException {
        if (n < 0 || n > reader.taped) {
            throw new IllegalArgumentException("the tape has not so many bytes");
        }
        int found = reader.read(n);
        if (found != 0) {
            faultPlace = reader.start;
            book.refuse(REFUSED_TEXT);
            return found;
        }
        faultPlace = NONE;
        plan = reader.exchange(plan);
        book.begin(plan);
        isKept = false;
        return 0;
    }

    public int fault() {
        return faultPlace;
    }

    public int count(int what) throws NoSuchElementException {
        needWhat(what, 16);
        Town town = book.town;
        switch (what) {
            case 0: return plan.streets;
            case 1: return plan.paths;
            case 2: return plan.people;
            case 3: return plan.rounds;
            case 4: return town.night;
            case 5: return plan.fogOf(town.night);
            case 6: return town.reserve;
            case 7: return town.dark;
            case 8: return town.bribing;
            case 9: return town.coinsOfAll();
            case 10: return book.diary.count;
            case 11: return book.told.count;
            case 12: return reader.taped;
            default: return at(book.status, what - 13);
        }
    }

    public int paths(int street) throws NoSuchElementException {
        needStreet(street);
        return at(plan.near, street);
    }

    public int person(int person, int what) throws NoSuchElementException {
        needPerson(person);
        needWhat(what, 5);
        Town town = book.town;
        switch (what) {
            case 0: return at(town.coins, person);
            case 1: return at(plan.lengths, person);
            case 2: return at(town.knows, person);
            case 3: return (plan.bishops >> person) & 1;
            default: return plan.seenIn(town, person, at(town.walks, person), 1);
        }
    }

    public int walk(int person, int place) throws NoSuchElementException {
        needPlace(person, place);
        return streetIn(at(book.town.walks, person), place);
    }

    public int nights(int many) {
        if (many < 1 || many > MOST_NIGHTS || book.town.night + many > LAST_NIGHT) {
            return book.refuse(REFUSED_ACT);
        }
        book.keepAct();
        for (int i = 0; i < many; i++) {
            sale.pass(plan, book.town, plan.fogOf(book.town.night));
        }
        return book.town.night;
    }

    public int bribe(int person) throws NoSuchElementException {
        needPerson(person);
        if (!book.town.canBribe(person)) {
            return book.refuse(REFUSED_ACT);
        }
        book.keepAct();
        book.town.startBribing(person);
        return at(book.town.coins, person);
    }

    public int wander(int person, int place, int street) throws NoSuchElementException {
        needPlace(person, place);
        needStreet(street);
        int was = streetIn(at(book.town.walks, person), place);
        if (was == street) {
            return book.refuse(REFUSED_ACT);
        }
        book.keepAct();
        book.town.move(person, place, street);
        return was;
    }

    public int earn(int person, int coins) throws NoSuchElementException {
        needPerson(person);
        if (coins < 1 || coins > MOST_EARNED) {
            return book.refuse(REFUSED_ACT);
        }
        book.keepAct();
        book.town.addCoins(person, coins);
        return at(book.town.coins, person);
    }

    public int reserve(int coins) {
        if (coins < 0 || coins > MOST_RESERVE) {
            return book.refuse(REFUSED_ACT);
        }
        book.keepAct();
        int was = book.town.reserve;
        book.town.reserve = coins;
        return was;
    }

    public int undo() {
        return book.undoAct() ? book.diary.count : NONE;
    }

    public int lots(int k) throws IllegalArgumentException {
        needWithin(k, 1, AHEAD);
        return plan.lotsIn(book.town, k);
    }

    public int sold(int person, int k, int what) throws NoSuchElementException, IllegalArgumentException {
        needPerson(person);
        needWhat(what, 2);
        needWithin(k, 1, AHEAD);
        goAhead(k);
        return what == 0 ? at(sale.buyers, person) : at(sale.prices, person);
    }

    public int then(int person, int nights, int what) throws NoSuchElementException, IllegalArgumentException {
        needPerson(person);
        needWhat(what, 2);
        needWithin(nights, 0, AHEAD);
        goAhead(nights);
        return what == 0 ? at(later.coins, person) : at(later.knows, person);
    }

    public int dark(int nights) throws IllegalArgumentException {
        needWithin(nights, 0, AHEAD);
        goAhead(nights);
        return later.dark;
    }

    public int first(int person) throws NoSuchElementException {
        needPerson(person);
        return firstSeen(person);
    }

    public int secret() {
        int people = 0;
        for (int who = 0; who < plan.people; who++) {
            if (firstSeen(who) == NONE) {
                people |= 1 << who;
            }
        }
        return people;
    }

    public int haunt(int nights) throws IllegalArgumentException {
        needWithin(nights, 1, AHEAD);
        int best = NONE;
        int most = 0;
        for (int street = 0; street < plan.streets; street++) {
            int many = plan.seenAt(book.town, street, nights);
            if (many > most) {
                most = many;
                best = street;
            }
        }
        return best;
    }

    public int watch(int k, int hour) throws IllegalArgumentException {
        needWithin(k, 1, AHEAD);
        needWithin(hour, 0, HOURS - 1);
        return plan.watchAt(book.town.night + k - 1, hour);
    }

    public int way(int street, int other) throws NoSuchElementException {
        needStreet(street);
        needStreet(other);
        int reached = 1 << street;
        for (int steps = 0; steps < STREETS; steps++) {
            if (((reached >> other) & 1) != 0) {
                return steps;
            }
            reached = plan.spread(reached);
        }
        return NONE;
    }

    public int sneak(int street, int other) throws NoSuchElementException {
        needStreet(street);
        needStreet(other);
        int reached = 1 << street;
        for (int hour = 0; hour < HOURS; hour++) {
            if (hour > 0) {
                reached = plan.spread(reached);
            }
            reached &= ~(1 << plan.watchAt(book.town.night, hour));
            if (((reached >> other) & 1) != 0) {
                return hour;
            }
        }
        return NONE;
    }

    public int safe(int person) throws NoSuchElementException {
        needPerson(person);
        int length = at(plan.lengths, person);
        int places = 0;
        for (int place = 0; place < length; place++) {
            if (isSafe(person, place, streetIn(at(book.town.walks, person), place))) {
                places |= 1 << place;
            }
        }
        return places;
    }

    public int toHide(int person) throws NoSuchElementException {
        needPerson(person);
        int length = at(plan.lengths, person);
        int many = 0;
        for (int place = 0; place < length; place++) {
            if (!isSafe(person, place, streetIn(at(book.town.walks, person), place))) {
                if (!canHide(person, place)) {
                    return NONE;
                }
                many++;
            }
        }
        return many;
    }

    public int toWin(int person, int other) throws NoSuchElementException {
        needPerson(person);
        needPerson(other);
        if (plan.seenIn(book.town, other, at(book.town.walks, other), 1) == 0) {
            return NONE;
        }
        for (int coins = 0; coins <= MOST_COINS; coins++) {
            if (wouldBuy(person, other, coins)) {
                return coins;
            }
        }
        return NONE;
    }

    public int given(int person) throws NoSuchElementException {
        if (person != NONE) {
            needPerson(person);
        }
        later.copy(book.town);
        sale.open(plan, later, plan.fogOf(later.night));
        gifts.giveOut(plan, later, sale);
        return person == NONE ? gifts.allTogether() : at(gifts.takers, person);
    }

    public int gossip(int person) throws NoSuchElementException {
        needPerson(person);
        int heard = 1 << person;
        for (int step = 0; step < PEOPLE; step++) {
            heard |= book.town.knownBy(heard);
        }
        return heard & ~(1 << person);
    }

    public int most(int what) throws NoSuchElementException {
        needWhat(what, 2);
        int best = NONE;
        int top = -1;
        for (int who = 0; who < plan.people; who++) {
            int has = what == 0 ? Integer.bitCount(book.town.knowers(who)) : at(book.town.coins, who);
            if (has > top) {
                top = has;
                best = who;
            }
        }
        return best;
    }

    public int lantern(int street) throws NoSuchElementException {
        needStreet(street);
        int hours = 0;
        for (int hour = 0; hour < HOURS; hour++) {
            if (plan.watchAt(book.town.night, hour) == street) {
                hours |= 1 << hour;
            }
        }
        return hours;
    }

    public int meet(int person, int other) throws NoSuchElementException {
        needPerson(person);
        needPerson(other);
        int hours = 0;
        for (int hour = 0; hour < HOURS; hour++) {
            if (streetNow(person, hour) == streetNow(other, hour)) {
                hours |= 1 << hour;
            }
        }
        return hours;
    }

    public int spends(int person, int nights) throws NoSuchElementException, IllegalArgumentException {
        needPerson(person);
        needWithin(nights, 0, AHEAD);
        int paid = 0;
        later.copy(book.town);
        for (int i = 0; i < nights; i++) {
            sale.pass(plan, later, plan.fogOf(later.night));
            paid += sale.paidBy(person);
        }
        return paid;
    }

    public int unknown(int person) throws NoSuchElementException {
        needPerson(person);
        int others = (1 << plan.people) - 1 & ~(1 << person);
        return others & ~book.town.knowers(person);
    }

    public int tell(int person, int k, boolean seen) throws NoSuchElementException {
        needPerson(person);
        if (k < 1 || k > TOLD_AHEAD || !book.told.hasRoom()) {
            return book.refuse(REFUSED_TOLD);
        }
        book.told.add(person, k, seen);
        return book.told.count;
    }

    public int otherwise(int what) throws NoSuchElementException {
        needWhat(what, 3);
        guess.scan(plan, book.town, book.told);
        if (what == 2) {
            return guess.without ? 1 : 0;
        }
        return what == 0 ? guess.count : guess.first;
    }

    public int look(int what) throws NoSuchElementException {
        needWhat(what, 2);
        guess.scan(plan, book.town, book.told);
        return what == 0 ? guess.nightToLook() : guess.mostUnlike();
    }

    public void forget() {
        book.told.count = 0;
    }

    public int game(int person, int other, int what) throws NoSuchElementException, IllegalArgumentException {
        needPerson(person);
        needPerson(other);
        needWhat(what, 2);
        if (person == other) {
            throw new IllegalArgumentException("both are one");
        }
        int choices = book.town.canBribe(person) ? 2 : 1;
        int otherChoices = book.town.canBribe(other) ? 2 : 1;
        playCouples(person, other, choices, otherChoices);
        int resting = 0;
        int first = NONE;
        for (int choice = 0; choice < choices; choice++) {
            for (int reply = 0; reply < otherChoices; reply++) {
                if (rests(choice, reply, choices, otherChoices)) {
                    first = resting == 0 ? 10 * choice + reply : first;
                    resting++;
                }
            }
        }
        return what == 0 ? resting : first;
    }

    public int years(int seed, int n, int what) throws NoSuchElementException, IllegalArgumentException {
        needWhat(what, 3);
        needWithin(n, 0, AHEAD);
        later.copy(book.town);
        dice.start(seed);
        int bought = 0;
        for (int i = 0; i < n; i++) {
            drawEvent();
            sale.pass(plan, later, dice.draw(10));
            bought += sale.bought;
        }
        if (what == 0) {
            return bought;
        }
        return what == 1 ? later.dark : later.coinsOfAll();
    }

    public void image() {
        kept.copy(book);
        isKept = true;
    }

    public boolean restore() {
        if (isKept) {
            book.copy(kept);
        }
        return isKept;
    }

    private static int at(int[] row, int i) {
        return i >= 0 && i < row.length ? row[i] : 0;
    }

    private static void put(int[] row, int i, int value) {
        if (i >= 0 && i < row.length) {
            row[i] = value;
        }
    }

    private static void copyRow(int[] from, int[] to) {
        for (int i = 0; i < from.length && i < to.length; i++) {
            to[i] = from[i];
        }
    }

    /** A WALK is one int, three bits a place, so that a WALK otherwise needs no row of its own. */
    private static int streetIn(int walk, int place) {
        return (walk >> (3 * place)) & 7;
    }

    private static int walkWith(int walk, int place, int street) {
        return walk & ~(7 << (3 * place)) | street << (3 * place);
    }

    private static void needWhat(int what, int kinds) {
        if (what < 0 || what >= kinds) {
            throw new NoSuchElementException("no such what");
        }
    }

    private static void needWithin(int number, int least, int most) {
        if (number < least || number > most) {
            throw new IllegalArgumentException("not as many as that");
        }
    }

    private void needStreet(int street) {
        if (street < 0 || street >= plan.streets) {
            throw new NoSuchElementException("no such street");
        }
    }

    private void needPerson(int person) {
        if (person < 0 || person >= plan.people) {
            throw new NoSuchElementException("no such person");
        }
    }

    private void needPlace(int person, int place) {
        needPerson(person);
        if (place < 0 || place >= at(plan.lengths, person)) {
            throw new NoSuchElementException("no such place");
        }
    }

    private void goAhead(int nights) {
        later.copy(book.town);
        for (int i = 0; i < nights; i++) {
            sale.pass(plan, later, plan.fogOf(later.night));
        }
    }

    private int firstSeen(int person) {
        int path = at(book.town.walks, person);
        for (int k = 1; k <= AHEAD; k++) {
            if (plan.seenIn(book.town, person, path, k) != 0) {
                return k;
            }
        }
        return NONE;
    }

    private int streetNow(int person, int hour) {
        return streetIn(at(book.town.walks, person), plan.placeAt(person, hour));
    }

    private boolean isSafe(int person, int place, int street) {
        for (int hour = 0; hour < HOURS; hour++) {
            if (plan.placeAt(person, hour) == place && plan.watchAt(book.town.night, hour) == street) {
                return false;
            }
        }
        return true;
    }

    private boolean canHide(int person, int place) {
        for (int street = 0; street < plan.streets; street++) {
            if (isSafe(person, place, street)) {
                return true;
            }
        }
        return false;
    }

    /** LOTS behind the other one's can't change who buys it, so they are left out. */
    private boolean wouldBuy(int person, int other, int coins) {
        later.copy(book.town);
        put(later.coins, person, coins);
        sale.open(plan, later, plan.fogOf(later.night));
        for (int lot = 0; lot <= other; lot++) {
            sale.sell(plan, later, lot);
        }
        return at(sale.buyers, other) == person;
    }

    private void playCouples(int person, int other, int choices, int otherChoices) {
        for (int choice = 0; choice < choices; choice++) {
            for (int reply = 0; reply < otherChoices; reply++) {
                later.copy(book.town);
                if (choice == 1) {
                    later.startBribing(person);
                }
                if (reply == 1) {
                    later.startBribing(other);
                }
                sale.pass(plan, later, plan.fogOf(later.night));
                put(losses, 2 * choice + reply, BRIBE * choice + lossOf(person));
                put(otherLosses, 2 * choice + reply, BRIBE * reply + lossOf(other));
            }
        }
    }

    private int lossOf(int person) {
        int buyer = at(sale.buyers, person);
        return buyer == NONE || buyer == person ? 0 : BOUGHT;
    }

    private boolean rests(int choice, int reply, int choices, int otherChoices) {
        int here = 2 * choice + reply;
        if (choices == 2 && at(losses, 2 * (1 - choice) + reply) < at(losses, here)) {
            return false;
        }
        return otherChoices < 2 || at(otherLosses, 2 * choice + 1 - reply) >= at(otherLosses, here);
    }

    private void drawEvent() {
        int event = dice.draw(4);
        if (plan.people == 0) {
            return;
        }
        if (event == 0) {
            later.addCoins(dice.draw(plan.people), 20);
        } else if (event == 1) {
            int who = dice.draw(plan.people);
            int place = dice.draw(at(plan.lengths, who));
            later.move(who, place, dice.draw(plan.streets));
        }
    }

    /** What a TEXT has told; it stays as it is until the next one. */
    static final class Ward {
        int streets;
        int paths;
        int rounds;
        int people;
        int bishops;
        int fogs;
        int reserve;
        final int[] near = new int[STREETS];
        final int[] round = new int[ROUND];
        final int[] coins = new int[PEOPLE];
        final int[] lengths = new int[PEOPLE];
        final int[] walks = new int[PEOPLE];
        final int[] fog = new int[FOGS];
        final Worth worth = new Worth();

        Ward() {
            clear();
        }

        void clear() {
            streets = 4;
            paths = 0;
            rounds = 1;
            people = 0;
            bishops = 0;
            fogs = 1;
            reserve = RESERVE;
            for (int street = 0; street < near.length; street++) {
                near[street] = 0;
            }
            put(round, 0, 0);
            put(fog, 0, 0);
            worth.clear();
        }

        void join(int street, int other) {
            put(near, street, at(near, street) | 1 << other);
            put(near, other, at(near, other) | 1 << street);
            paths++;
        }

        void addPerson(int has, boolean isBishop, int[] row, int length) {
            int path = 0;
            for (int place = 0; place < length; place++) {
                path = walkWith(path, place, at(row, place));
            }
            put(coins, people, has);
            put(lengths, people, length);
            put(walks, people, path);
            bishops |= isBishop ? 1 << people : 0;
            people++;
        }

        int watchAt(int night, int hour) {
            return rounds > 0 ? at(round, (HOURS * night + hour) % rounds) : 0;
        }

        int fogOf(int night) {
            return fogs > 0 ? at(fog, night % fogs) : 0;
        }

        int placeAt(int person, int hour) {
            int length = at(lengths, person);
            return length > 0 ? hour % length : 0;
        }

        int spread(int reached) {
            int all = reached;
            for (int street = 0; street < streets; street++) {
                if (((reached >> street) & 1) != 0) {
                    all |= at(near, street);
                }
            }
            return all;
        }

        /** HOURS in which one on this WALK is where the watch is, whatever FOG there is. */
        int hoursMet(int person, int path, int night) {
            int hours = 0;
            for (int hour = 0; hour < HOURS; hour++) {
                if (watchAt(night, hour) == streetIn(path, placeAt(person, hour))) {
                    hours |= 1 << hour;
                }
            }
            return hours;
        }

        /** HOURS in which one on this WALK is SEEN in the k-th NIGHT; BRIBING helps in the first one alone. */
        int seenIn(Town town, int person, int path, int k) {
            int night = town.night + k - 1;
            if (fogOf(night) >= THICK || (k == 1 && town.isBribing(person))) {
                return 0;
            }
            return hoursMet(person, path, night);
        }

        int lotsIn(Town town, int k) {
            int bits = 0;
            for (int who = 0; who < people; who++) {
                if (seenIn(town, who, at(town.walks, who), k) != 0) {
                    bits |= 1 << who;
                }
            }
            return bits;
        }

        /** How often somebody is SEEN in the STREET in so many NIGHTS. */
        int seenAt(Town town, int street, int many) {
            int sum = 0;
            for (int k = 1; k <= many; k++) {
                int hours = 0;
                for (int hour = 0; hour < HOURS; hour++) {
                    if (watchAt(town.night + k - 1, hour) == street) {
                        hours |= 1 << hour;
                    }
                }
                for (int who = 0; who < people; who++) {
                    sum += Integer.bitCount(hours & seenIn(town, who, at(town.walks, who), k));
                }
            }
            return sum;
        }
    }

    /** The rule WORTH, its operators behind their operands: a NUMBER as it is, all else below 0. */
    static final class Worth {
        static final int VALUES = 8;
        static final int OWN = 0;
        static final int COINS = 1;
        static final int THEIRS = 2;
        static final int KNOWS = 3;
        static final int SEEN = 4;
        static final int STREET = 5;
        static final int LOTS = 6;
        static final int NIGHT = 7;
        static final int NOT = -11;
        static final int OR = -12;
        static final int AND = -13;
        static final int LESS = -14;
        static final int LIKE = -15;
        static final int PLUS = -16;
        static final int MINUS = -17;
        static final int TIMES = -18;
        static final int OVER = -19;

        private final int[] code = new int[TAPE];
        private int length = 0;
        private final int[] stack = new int[40];
        private int height = 0;

        void clear() {
            length = 0;
        }

        boolean isTold() {
            return length > 0;
        }

        void add(int step) {
            put(code, length, step);
            length++;
        }

        void addValue(int value) {
            add(-1 - value);
        }

        int of(int[] values) {
            height = 0;
            for (int i = 0; i < length && i < code.length; i++) {
                int step = code[i];
                if (step >= 0) {
                    push(step);
                } else if (step >= -VALUES) {
                    push(at(values, -1 - step));
                } else if (step == NOT) {
                    push(pop() == 0 ? 1 : 0);
                } else {
                    int right = pop();
                    push(joined(step, pop(), right));
                }
            }
            return pop();
        }

        private void push(int value) {
            put(stack, height, value);
            height++;
        }

        private int pop() {
            height--;
            return at(stack, height);
        }

        private static int joined(int step, int left, int right) {
            switch (step) {
                case OR: return left != 0 || right != 0 ? 1 : 0;
                case AND: return left != 0 && right != 0 ? 1 : 0;
                case LESS: return left < right ? 1 : 0;
                case LIKE: return left == right ? 1 : 0;
                case PLUS: return left + right;
                case MINUS: return left - right;
                case TIMES: return left * right;
                default: return right == 0 ? 0 : left / right;
            }
        }
    }

    /** The tape; it reads a TEXT from it into a draft, from the left, up to the first FAULT. */
    static final class Reader {
        private static final int END = 0;
        private static final int WORD = 1;
        private static final int NUMBER = 2;
        private static final int ALIEN = 3;
        private static final int BAD_TOKEN = 1;
        private static final int TOO_MUCH = 2;
        private static final int NOT_THERE = 3;
        private static final int NOT_NOW = 4;
        private static final int SECOND = 5;
        private static final int STREETS_LINE = 1;
        private static final int ROUND_LINE = 2;
        private static final int FOG_LINE = 4;
        private static final int RESERVE_LINE = 8;
        private static final int WORTH_LINE = 16;
        private static final int DEEPEST = 6;
        private static final int NOTS = 6;
        private static final int DIGITS = 4;

        private final int[] tape = new int[TAPE];
        int taped = 0;
        private Ward draft = new Ward();
        private int end = 0;
        int start = 0;
        private int next = 0;
        private int kind = END;
        private int value = 0;
        private int found = 0;
        private int linesTold = 0;
        private boolean hasStreet = false;
        private final int[] row = new int[ROUND];

        void append(int number) {
            for (int shift = 24; shift >= 0; shift -= 8) {
                put(tape, taped, (number >> shift) & 255);
                taped++;
            }
        }

        /** The draft, for a Ward that is of no use any more. */
        Ward exchange(Ward old) {
            Ward read = draft;
            draft = old;
            return read;
        }

        /** The FAULT of the first bytes, at start then, or 0; the tape is empty behind it. */
        int read(int many) {
            taped = 0;
            end = many;
            next = 0;
            found = 0;
            linesTold = 0;
            hasStreet = false;
            draft.clear();
            advance();
            for (int i = 0; i <= TAPE && kind != END; i++) {
                if (!line()) {
                    return found;
                }
            }
            return 0;
        }

        private void advance() {
            start = next;
            while (start < end && isBlank(at(tape, start))) {
                start++;
            }
            next = start;
            if (start >= end) {
                kind = END;
                return;
            }
            int sign = at(tape, start);
            if (isLetter(sign)) {
                kind = WORD;
                while (next < end && isLetter(at(tape, next))) {
                    next++;
                }
            } else if (isDigit(sign)) {
                kind = NUMBER;
                readDigits();
            } else {
                kind = isSign(sign) ? sign : ALIEN;
                next++;
            }
        }

        private void readDigits() {
            value = 0;
            while (next < end && isDigit(at(tape, next))) {
                if (next - start < DIGITS) {
                    value = 10 * value + at(tape, next) - '0';
                }
                next++;
            }
        }

        private static boolean isBlank(int sign) {
            return sign == ' ' || sign == '\n';
        }

        private static boolean isLetter(int sign) {
            return sign >= 'a' && sign <= 'z';
        }

        private static boolean isDigit(int sign) {
            return sign >= '0' && sign <= '9';
        }

        private static boolean isSign(int sign) {
            return sign >= '(' && sign <= '+' || sign == '-' || sign == '/' || sign >= ';' && sign <= '=';
        }

        private boolean isWord(String word) {
            if (kind != WORD || next - start != word.length()) {
                return false;
            }
            for (int i = 0; i < word.length(); i++) {
                if (at(tape, start + i) != word.charAt(i)) {
                    return false;
                }
            }
            return true;
        }

        private boolean refuse(int number) {
            found = number;
            return false;
        }

        /** A line of a kind that stands once alone. */
        private boolean once(int bit) {
            if ((linesTold & bit) != 0) {
                return refuse(SECOND);
            }
            linesTold |= bit;
            advance();
            return true;
        }

        private boolean sign(char one) {
            if (kind != one) {
                return refuse(BAD_TOKEN);
            }
            advance();
            return true;
        }

        /** Whether a NUMBER as told stands here; it isn't left, for a FAULT of it may still be found. */
        private boolean number(int least, int most) {
            if (kind != NUMBER) {
                return refuse(BAD_TOKEN);
            }
            if (next - start > DIGITS || value < least || value > most) {
                return refuse(TOO_MUCH);
            }
            return true;
        }

        private boolean street() {
            if (!number(0, 9999)) {
                return false;
            }
            hasStreet = true;
            return value < draft.streets || refuse(NOT_THERE);
        }

        /** One or more STREETS, or numbers of FOG, into the row: how many, or NONE behind a FAULT. */
        private int readRow(int most, boolean ofStreets) {
            int many = 0;
            do {
                if (many >= most && kind == NUMBER) {
                    found = TOO_MUCH;
                    return NONE;
                }
                if (!(ofStreets ? street() : number(0, 9))) {
                    return NONE;
                }
                put(row, many, value);
                many++;
                advance();
            } while (kind == NUMBER && many <= most);
            return many;
        }

        private boolean line() {
            if (isWord("streets")) {
                return streetsLine();
            }
            if (isWord("path")) {
                return pathLine();
            }
            if (isWord("round")) {
                return roundLine();
            }
            if (isWord("person")) {
                return personLine(false);
            }
            if (isWord("bishop")) {
                return personLine(true);
            }
            if (isWord("fog")) {
                return fogLine();
            }
            if (isWord("reserve")) {
                return reserveLine();
            }
            if (isWord("worth")) {
                return once(WORTH_LINE) && expr(1) && sign(';');
            }
            return refuse(BAD_TOKEN);
        }

        private boolean streetsLine() {
            if (hasStreet) {
                return refuse(NOT_NOW);
            }
            if (!once(STREETS_LINE) || !number(2, STREETS)) {
                return false;
            }
            draft.streets = value;
            advance();
            return sign(';');
        }

        private boolean pathLine() {
            if (draft.paths >= PATHS) {
                return refuse(TOO_MUCH);
            }
            advance();
            if (!street()) {
                return false;
            }
            int one = value;
            advance();
            if (!street()) {
                return false;
            }
            if (value == one || ((at(draft.near, one) >> value) & 1) != 0) {
                return refuse(NOT_NOW);
            }
            draft.join(one, value);
            advance();
            return sign(';');
        }

        private boolean roundLine() {
            if (!once(ROUND_LINE)) {
                return false;
            }
            int many = readRow(ROUND, true);
            if (many == NONE) {
                return false;
            }
            draft.rounds = many;
            copyRow(row, draft.round);
            return sign(';');
        }

        private boolean personLine(boolean isBishop) {
            if (draft.people >= PEOPLE) {
                return refuse(TOO_MUCH);
            }
            advance();
            if (!number(0, MOST_COINS)) {
                return false;
            }
            int has = value;
            advance();
            int length = readRow(PLACES, true);
            if (length == NONE) {
                return false;
            }
            draft.addPerson(has, isBishop, row, length);
            return sign(';');
        }

        private boolean fogLine() {
            if (!once(FOG_LINE)) {
                return false;
            }
            int many = readRow(FOGS, false);
            if (many == NONE) {
                return false;
            }
            draft.fogs = many;
            copyRow(row, draft.fog);
            return sign(';');
        }

        private boolean reserveLine() {
            if (!once(RESERVE_LINE) || !number(0, MOST_RESERVE)) {
                return false;
            }
            draft.reserve = value;
            advance();
            return sign(';');
        }

        private boolean expr(int depth) {
            if (depth > DEEPEST) {
                return refuse(kind == NUMBER || kind == WORD || kind == '(' ? TOO_MUCH : BAD_TOKEN);
            }
            if (!both(depth)) {
                return false;
            }
            for (int i = 0; i < TAPE && isWord("or"); i++) {
                advance();
                if (!both(depth)) {
                    return false;
                }
                draft.worth.add(Worth.OR);
            }
            return true;
        }

        private boolean both(int depth) {
            if (!denied(depth)) {
                return false;
            }
            for (int i = 0; i < TAPE && isWord("and"); i++) {
                advance();
                if (!denied(depth)) {
                    return false;
                }
                draft.worth.add(Worth.AND);
            }
            return true;
        }

        private boolean denied(int depth) {
            int nots = 0;
            while (nots < NOTS && isWord("not")) {
                nots++;
                advance();
            }
            if (isWord("not") && nots == NOTS) {
                return refuse(TOO_MUCH);
            }
            if (!test(depth)) {
                return false;
            }
            for (int i = 0; i < nots; i++) {
                draft.worth.add(Worth.NOT);
            }
            return true;
        }

        private boolean test(int depth) {
            if (!sum(depth)) {
                return false;
            }
            if (kind != '<' && kind != '=') {
                return true;
            }
            int step = kind == '<' ? Worth.LESS : Worth.LIKE;
            advance();
            if (!sum(depth)) {
                return false;
            }
            draft.worth.add(step);
            return true;
        }

        private boolean sum(int depth) {
            if (!product(depth)) {
                return false;
            }
            for (int i = 0; i < TAPE && (kind == '+' || kind == '-'); i++) {
                int step = kind == '+' ? Worth.PLUS : Worth.MINUS;
                advance();
                if (!product(depth)) {
                    return false;
                }
                draft.worth.add(step);
            }
            return true;
        }

        private boolean product(int depth) {
            if (!part(depth)) {
                return false;
            }
            for (int i = 0; i < TAPE && (kind == '*' || kind == '/'); i++) {
                int step = kind == '*' ? Worth.TIMES : Worth.OVER;
                advance();
                if (!part(depth)) {
                    return false;
                }
                draft.worth.add(step);
            }
            return true;
        }

        private boolean part(int depth) {
            if (kind == '(') {
                advance();
                return expr(depth + 1) && sign(')');
            }
            if (kind == WORD) {
                int index = valueHere();
                if (index == NONE) {
                    return refuse(NOT_THERE);
                }
                draft.worth.addValue(index);
            } else {
                if (!number(0, 9999)) {
                    return false;
                }
                draft.worth.add(value);
            }
            advance();
            return true;
        }

        private int valueHere() {
            if (isWord("own")) {
                return Worth.OWN;
            }
            if (isWord("coins")) {
                return Worth.COINS;
            }
            if (isWord("theirs")) {
                return Worth.THEIRS;
            }
            if (isWord("knows")) {
                return Worth.KNOWS;
            }
            if (isWord("hours")) {
                return Worth.SEEN;
            }
            if (isWord("street")) {
                return Worth.STREET;
            }
            if (isWord("lots")) {
                return Worth.LOTS;
            }
            return isWord("night") ? Worth.NIGHT : NONE;
        }
    }

    /** All that NIGHTS and ACTS change. */
    static final class Town {
        static final int SIZE = 4 + 3 * PEOPLE;

        int night = 0;
        int dark = 0;
        int bribing = 0;
        int reserve = RESERVE;
        final int[] coins = new int[PEOPLE];
        final int[] knows = new int[PEOPLE];
        final int[] walks = new int[PEOPLE];

        void begin(Ward ward) {
            night = 0;
            dark = 0;
            bribing = 0;
            reserve = ward.reserve;
            for (int who = 0; who < PEOPLE; who++) {
                boolean isThere = who < ward.people;
                put(coins, who, isThere ? at(ward.coins, who) : 0);
                put(knows, who, 0);
                put(walks, who, isThere ? at(ward.walks, who) : 0);
            }
        }

        void copy(Town other) {
            night = other.night;
            dark = other.dark;
            bribing = other.bribing;
            reserve = other.reserve;
            copyRow(other.coins, coins);
            copyRow(other.knows, knows);
            copyRow(other.walks, walks);
        }

        void writeTo(int[] rows, int from) {
            put(rows, from, night);
            put(rows, from + 1, dark);
            put(rows, from + 2, bribing);
            put(rows, from + 3, reserve);
            for (int who = 0; who < PEOPLE; who++) {
                put(rows, from + 4 + who, at(coins, who));
                put(rows, from + 4 + PEOPLE + who, at(knows, who));
                put(rows, from + 4 + 2 * PEOPLE + who, at(walks, who));
            }
        }

        void readFrom(int[] rows, int from) {
            night = at(rows, from);
            dark = at(rows, from + 1);
            bribing = at(rows, from + 2);
            reserve = at(rows, from + 3);
            for (int who = 0; who < PEOPLE; who++) {
                put(coins, who, at(rows, from + 4 + who));
                put(knows, who, at(rows, from + 4 + PEOPLE + who));
                put(walks, who, at(rows, from + 4 + 2 * PEOPLE + who));
            }
        }

        boolean isBribing(int person) {
            return ((bribing >> person) & 1) != 0;
        }

        boolean canBribe(int person) {
            return !isBribing(person) && at(coins, person) >= BRIBE;
        }

        void startBribing(int person) {
            put(coins, person, at(coins, person) - BRIBE);
            bribing |= 1 << person;
        }

        void addCoins(int person, int many) {
            put(coins, person, Math.min(MOST_COINS, at(coins, person) + many));
        }

        void move(int person, int place, int street) {
            put(walks, person, walkWith(at(walks, person), place, street));
        }

        boolean doesKnow(int one, int other) {
            return ((at(knows, one) >> other) & 1) != 0;
        }

        int coinsOfAll() {
            int sum = 0;
            for (int who = 0; who < coins.length; who++) {
                sum += coins[who];
            }
            return sum;
        }

        /** Whom at least one of these PEOPLE KNOWS. */
        int knownBy(int people) {
            int bits = 0;
            for (int who = 0; who < knows.length; who++) {
                if (((people >> who) & 1) != 0) {
                    bits |= knows[who];
                }
            }
            return bits;
        }

        /** Who KNOWS that PERSON. */
        int knowers(int person) {
            int bits = 0;
            for (int who = 0; who < knows.length; who++) {
                bits |= ((knows[who] >> person) & 1) << who;
            }
            return bits;
        }
    }

    /** How the Town was ahead of each ACT that is kept, the oldest first. */
    static final class Diary {
        private final int[] rows = new int[ACTS * Town.SIZE];
        int count = 0;

        void add(Town town) {
            if (count >= ACTS) {
                dropOldest();
            }
            town.writeTo(rows, count * Town.SIZE);
            count++;
        }

        boolean takeBack(Town town) {
            if (count == 0) {
                return false;
            }
            count--;
            town.readFrom(rows, count * Town.SIZE);
            return true;
        }

        void copy(Diary other) {
            count = other.count;
            for (int i = 0; i < count * Town.SIZE; i++) {
                put(rows, i, at(other.rows, i));
            }
        }

        private void dropOldest() {
            for (int i = 0; i + Town.SIZE < rows.length; i++) {
                rows[i] = rows[i + Town.SIZE];
            }
            count--;
        }
    }

    /** What is TOLD. */
    static final class Told {
        private final int[] people = new int[TOLD];
        private final int[] nights = new int[TOLD];
        private final int[] wasSeen = new int[TOLD];
        int count = 0;

        boolean hasRoom() {
            return count < TOLD;
        }

        void add(int person, int k, boolean seen) {
            put(people, count, person);
            put(nights, count, k);
            put(wasSeen, count, seen ? 1 : 0);
            count++;
        }

        /** Whether all is so, if each PERSON is SEEN in these NIGHTS (bits). */
        boolean holds(int[] nightsSeen) {
            for (int i = 0; i < count; i++) {
                int bit = (at(nightsSeen, at(people, i)) >> (at(nights, i) - 1)) & 1;
                if (bit != at(wasSeen, i)) {
                    return false;
                }
            }
            return true;
        }

        void copy(Told other) {
            count = other.count;
            copyRow(other.people, people);
            copyRow(other.nights, nights);
            copyRow(other.wasSeen, wasSeen);
        }
    }

    /** All that an IMAGE keeps. */
    static final class Book {
        final Town town = new Town();
        final Diary diary = new Diary();
        final Told told = new Told();
        final int[] status = new int[3];

        void begin(Ward ward) {
            town.begin(ward);
            diary.count = 0;
            told.count = 0;
        }

        void keepAct() {
            diary.add(town);
        }

        boolean undoAct() {
            return diary.takeBack(town);
        }

        int refuse(int which) {
            put(status, which, at(status, which) + 1);
            return NONE;
        }

        void copy(Book other) {
            town.copy(other.town);
            diary.copy(other.diary);
            told.copy(other.told);
            copyRow(other.status, status);
        }
    }

    /** The LOTS of one NIGHT: who is SEEN in it, and who buys whom. */
    static final class Sale {
        private final int[] hours = new int[PEOPLE];
        private final int[] values = new int[Worth.VALUES];
        final int[] buyers = new int[PEOPLE];
        final int[] prices = new int[PEOPLE];
        int lotCount = 0;
        int bought = 0;

        /** Looks who is SEEN; nothing is sold yet. */
        void open(Ward ward, Town town, int fog) {
            lotCount = 0;
            bought = 0;
            for (int who = 0; who < PEOPLE; who++) {
                boolean isHidden = who >= ward.people || fog >= THICK || town.isBribing(who);
                int met = isHidden ? 0 : ward.hoursMet(who, at(town.walks, who), town.night);
                put(hours, who, met);
                put(buyers, who, NONE);
                put(prices, who, NONE);
                lotCount += met != 0 ? 1 : 0;
            }
        }

        boolean hasLot(int person) {
            return at(hours, person) != 0;
        }

        int bid(Ward ward, Town town, int who, int lot) {
            int has = at(town.coins, who);
            if (who == lot && ((ward.bishops >> who) & 1) != 0) {
                return has;
            }
            if (!ward.worth.isTold()) {
                return Math.max(0, Math.min(plainWorth(town, who, lot), has));
            }
            putValues(ward, town, who, lot);
            return Math.max(0, Math.min(ward.worth.of(values), has));
        }

        private int plainWorth(Town town, int who, int lot) {
            int own = who == lot ? 20 : 3;
            return own + 5 * Integer.bitCount(at(hours, lot)) - (town.doesKnow(who, lot) ? 9 : 0);
        }

        private void putValues(Ward ward, Town town, int who, int lot) {
            int seen = at(hours, lot);
            int firstPlace = ward.placeAt(lot, Integer.numberOfTrailingZeros(seen));
            put(values, Worth.OWN, who == lot ? 1 : 0);
            put(values, Worth.COINS, at(town.coins, who));
            put(values, Worth.THEIRS, at(town.coins, lot));
            put(values, Worth.KNOWS, town.doesKnow(who, lot) ? 1 : 0);
            put(values, Worth.SEEN, Integer.bitCount(seen));
            put(values, Worth.STREET, streetIn(at(town.walks, lot), firstPlace));
            put(values, Worth.LOTS, lotCount);
            put(values, Worth.NIGHT, town.night);
        }

        void sell(Ward ward, Town town, int lot) {
            if (!hasLot(lot)) {
                return;
            }
            int best = NONE;
            int top = 0;
            int second = 0;
            for (int who = 0; who < ward.people; who++) {
                int offer = bid(ward, town, who, lot);
                if (offer > top) {
                    second = top;
                    top = offer;
                    best = who;
                } else if (offer > second) {
                    second = offer;
                }
            }
            if (best == NONE || top < town.reserve) {
                town.dark++;
            } else {
                handOver(town, lot, best, Math.max(second, town.reserve));
            }
        }

        private void handOver(Town town, int lot, int buyer, int price) {
            put(buyers, lot, buyer);
            put(prices, lot, price);
            bought++;
            put(town.coins, buyer, at(town.coins, buyer) - price);
            if (buyer != lot) {
                put(town.knows, buyer, at(town.knows, buyer) | 1 << lot);
            }
        }

        void pass(Ward ward, Town town, int fog) {
            open(ward, town, fog);
            for (int lot = 0; lot < ward.people; lot++) {
                sell(ward, town, lot);
            }
            town.bribing = 0;
            town.night++;
        }

        int paidBy(int person) {
            int sum = 0;
            for (int lot = 0; lot < PEOPLE; lot++) {
                if (at(buyers, lot) == person) {
                    sum += at(prices, lot);
                }
            }
            return sum;
        }
    }

    /** LOTS given out, no one two, so that all bids together are most. */
    static final class Gifts {
        private final int[] bids = new int[PEOPLE * PEOPLE];
        // the most that the LOTS from one on can bring, by who has one already
        private final int[] best = new int[(PEOPLE + 1) * MASKS];
        final int[] takers = new int[PEOPLE];

        void giveOut(Ward ward, Town town, Sale sale) {
            for (int lot = 0; lot < PEOPLE; lot++) {
                for (int who = 0; who < PEOPLE; who++) {
                    boolean canBid = who < ward.people && sale.hasLot(lot);
                    put(bids, lot * PEOPLE + who, canBid ? sale.bid(ward, town, who, lot) : 0);
                }
            }
            for (int lot = PEOPLE - 1; lot >= 0; lot--) {
                for (int taken = 0; taken < MASKS; taken++) {
                    put(best, lot * MASKS + taken, bestFrom(lot, taken));
                }
            }
            chooseFirstRow();
        }

        int allTogether() {
            return at(best, 0);
        }

        /** NONE with the LOT of nobody; 0 is no bid. */
        private int sumWith(int lot, int who, int taken) {
            int offer = at(bids, lot * PEOPLE + who);
            if (offer <= 0 || ((taken >> who) & 1) != 0) {
                return NONE;
            }
            return offer + at(best, (lot + 1) * MASKS + (taken | 1 << who));
        }

        private int bestFrom(int lot, int taken) {
            int top = at(best, (lot + 1) * MASKS + taken);
            for (int who = 0; who < PEOPLE; who++) {
                top = Math.max(top, sumWith(lot, who, taken));
            }
            return top;
        }

        private void chooseFirstRow() {
            int taken = 0;
            for (int lot = 0; lot < PEOPLE; lot++) {
                int taker = takerOf(lot, taken);
                put(takers, lot, taker);
                taken |= taker == NONE ? 0 : 1 << taker;
            }
        }

        private int takerOf(int lot, int taken) {
            int top = at(best, lot * MASKS + taken);
            for (int who = 0; who < PEOPLE; who++) {
                if (sumWith(lot, who, taken) == top) {
                    return who;
                }
            }
            return NONE;
        }
    }

    /** OTHERWISE and LOOK NEXT: every WALK otherwise at one place is tried. */
    static final class Guess {
        private final int[] nightsSeen = new int[PEOPLE];
        // which rows of LOTS the NIGHTS can have: a bit for each, in words of 32
        private final int[] marks = new int[TOLD_AHEAD * MASKS / 32];
        int count = 0;
        int first = NONE;
        boolean without = false;

        void scan(Ward ward, Town town, Told told) {
            count = 0;
            first = NONE;
            for (int i = 0; i < marks.length; i++) {
                marks[i] = 0;
            }
            for (int who = 0; who < ward.people; who++) {
                put(nightsSeen, who, nightsOf(ward, town, who, at(town.walks, who)));
            }
            without = told.holds(nightsSeen);
            for (int who = 0; who < ward.people; who++) {
                tryWalksOf(who, ward, town, told);
            }
        }

        private void tryWalksOf(int who, Ward ward, Town town, Told told) {
            int path = at(town.walks, who);
            int was = at(nightsSeen, who);
            int length = at(ward.lengths, who);
            for (int place = 0; place < length; place++) {
                for (int street = 0; street < ward.streets; street++) {
                    if (street != streetIn(path, place)) {
                        put(nightsSeen, who, nightsOf(ward, town, who, walkWith(path, place, street)));
                        if (told.holds(nightsSeen)) {
                            note(100 * who + 10 * place + street, ward.people);
                        }
                    }
                }
            }
            put(nightsSeen, who, was);
        }

        private void note(int change, int people) {
            first = count == 0 ? change : first;
            count++;
            for (int night = 0; night < TOLD_AHEAD; night++) {
                int lots = 0;
                for (int who = 0; who < people; who++) {
                    lots |= ((at(nightsSeen, who) >> night) & 1) << who;
                }
                int bit = night * MASKS + lots;
                put(marks, bit / 32, at(marks, bit / 32) | 1 << (bit % 32));
            }
        }

        /** NIGHTS in which one on this WALK is SEEN, the one that comes as bit 0. */
        private static int nightsOf(Ward ward, Town town, int who, int path) {
            int bits = 0;
            for (int k = 1; k <= TOLD_AHEAD; k++) {
                if (ward.seenIn(town, who, path, k) != 0) {
                    bits |= 1 << (k - 1);
                }
            }
            return bits;
        }

        private int unlike(int night) {
            int sum = 0;
            for (int i = 0; i < MASKS / 32; i++) {
                sum += Integer.bitCount(at(marks, night * (MASKS / 32) + i));
            }
            return sum;
        }

        int mostUnlike() {
            int top = 0;
            for (int night = 0; night < TOLD_AHEAD; night++) {
                top = Math.max(top, unlike(night));
            }
            return top;
        }

        int nightToLook() {
            int top = mostUnlike();
            for (int night = 0; night < TOLD_AHEAD && top > 0; night++) {
                if (unlike(night) == top) {
                    return night + 1;
                }
            }
            return NONE;
        }
    }

    /** DRAWS by a seed. */
    static final class Dice {
        private int seed = 0;

        void start(int from) {
            seed = from;
        }

        int draw(int many) {
            seed = seed * 1103515245 + 12345;
            return many > 0 ? ((seed >>> 16) & 32767) % many : 0;
        }
    }
}
