import java.nio.charset.StandardCharsets;
import java.util.Arrays;
import java.util.Random;
import java.util.function.IntSupplier;

/** Runs of calls by a seed, each answer held against the Model's. */
final class ModelTest {
    private static final int[] ODD = {-1, -2, 8, 13, 21, 41, 100, 1000, Integer.MAX_VALUE, Integer.MIN_VALUE};

    private final Checks checks;
    private final Random random;
    private final Texts texts;
    private final WatchLots lots = new WatchLots();
    private final Model model = new Model();
    private final StringBuilder told = new StringBuilder();
    private boolean isWrong = false;

    private ModelTest(Checks checks, long seed) {
        this.checks = checks;
        this.random = new Random(seed);
        this.texts = new Texts(random);
        told.append("seed ").append(seed).append(": ");
    }

    public static void main(String[] args) {
        Checks checks = new Checks();
        int runs = args.length > 0 ? Integer.parseInt(args[0]) : 150;
        for (int i = 0; i < runs; i++) {
            new ModelTest(checks, 7000 + i).run();
        }
        checks.end();
    }

    private void same(String call, IntSupplier a, IntSupplier b) {
        told.append(call).append(' ');
        String want = Checks.answer(b);
        String got = Checks.answer(a);
        isWrong |= !want.equals(got);
        checks.due(want.equals(got) ? call : told.toString(), want, got);
    }

    private int odd(int usual) {
        return random.nextInt(20) == 0 ? ODD[random.nextInt(ODD.length)] : usual;
    }

    private int one(int low, int many) {
        return odd(low + (many > 0 ? random.nextInt(many) : 0));
    }

    private void run() {
        ward(random.nextInt(12) == 0 ? "" : texts.good());
        int calls = 60 + random.nextInt(200);
        for (int i = 0; i < calls && !isWrong; i++) {
            if (random.nextInt(60) == 0) {
                ward(random.nextInt(3) == 0 ? texts.good() : texts.spoilt());
            } else if (random.nextInt(3) == 0) {
                act();
            } else {
                ask();
            }
            if (random.nextInt(10) == 0) {
                whole();
            }
        }
        whole();
    }

    private void ward(String text) {
        byte[] bytes = text.getBytes(StandardCharsets.ISO_8859_1);
        byte[] filled = Arrays.copyOf(bytes, (bytes.length + 19) / 20 * 20);
        for (int i = 0; i < filled.length; i += 20) {
            int a = Checks.number(filled, i);
            int b = Checks.number(filled, i + 4);
            int c = Checks.number(filled, i + 8);
            int d = Checks.number(filled, i + 12);
            int e = Checks.number(filled, i + 16);
            same("feed", () -> lots.feed(a, b, c, d, e), () -> model.feed(a, b, c, d, e));
        }
        int n = odd(bytes.length);
        same("ward " + n + " of " + text, () -> lots.ward(n), () -> model.ward(n));
        same("ward", () -> lots.ward(0), () -> model.ward(0), n != bytes.length);
        same("fault", lots::fault, model::fault);
    }

    private void same(String call, IntSupplier a, IntSupplier b, boolean asked) {
        if (asked) {
            same(call, a, b);
        }
    }

    /** All that can be asked without going ahead. */
    private void whole() {
        for (int what = 0; what < 16; what++) {
            int w = what;
            same("count " + w, () -> lots.count(w), () -> model.count(w));
        }
        for (int who = 0; who < model.count(2); who++) {
            for (int what = 0; what < 5; what++) {
                int p = who;
                int w = what;
                same("person " + p + " " + w, () -> lots.person(p, w), () -> model.person(p, w));
            }
            for (int place = 0; place < model.person(who, 1); place++) {
                int p = who;
                int q = place;
                same("walk " + p + " " + q, () -> lots.walk(p, q), () -> model.walk(p, q));
            }
        }
    }

    private void act() {
        int p = one(0, model.count(2));
        int length = p >= 0 && p < model.count(2) ? model.person(p, 1) : 1;
        int place = one(0, length);
        int s = one(0, model.count(0));
        switch (random.nextInt(12)) {
            case 0, 1 -> {
                int n = one(1, random.nextInt(3) == 0 ? 20 : 3);
                same("nights " + n, () -> lots.nights(n), () -> model.nights(n));
            }
            case 2, 3 -> same("bribe " + p, () -> lots.bribe(p), () -> model.bribe(p));
            case 4, 5 -> same("wander " + p + " " + place + " " + s,
                    () -> lots.wander(p, place, s), () -> model.wander(p, place, s));
            case 6 -> {
                int n = one(1, 99);
                same("earn " + p + " " + n, () -> lots.earn(p, n), () -> model.earn(p, n));
            }
            case 7 -> {
                int n = one(0, 20);
                same("reserve " + n, () -> lots.reserve(n), () -> model.reserve(n));
            }
            case 8 -> same("undo", lots::undo, model::undo);
            case 9, 10 -> {
                int k = one(1, 12);
                boolean seen = random.nextInt(3) == 0;
                same("tell " + p + " " + k + " " + seen, () -> lots.tell(p, k, seen), () -> model.tell(p, k, seen));
            }
            default -> keep();
        }
    }

    private void keep() {
        switch (random.nextInt(4)) {
            case 0 -> same("image", () -> {
                lots.image();
                return 0;
            }, () -> {
                model.image();
                return 0;
            });
            case 1 -> same("restore", () -> lots.restore() ? 1 : 0, () -> model.restore() ? 1 : 0);
            case 2 -> same("forget", () -> {
                lots.forget();
                return 0;
            }, () -> {
                model.forget();
                return 0;
            });
            default -> {
                int n = random.nextInt();
                same("feed " + n, () -> lots.feed(n, n, n, n, n), () -> model.feed(n, n, n, n, n));
                same("ward -1", () -> lots.ward(-1), () -> model.ward(-1));
            }
        }
    }

    private void ask() {
        int p = one(0, model.count(2));
        int o = one(0, model.count(2));
        int s = one(0, model.count(0));
        int t = one(0, model.count(0));
        int k = one(1, 40);
        int w = one(0, 2);
        switch (random.nextInt(26)) {
            case 0 -> same("lots " + k, () -> lots.lots(k), () -> model.lots(k));
            case 1, 2 -> same("sold " + p + " " + k + " " + w, () -> lots.sold(p, k, w), () -> model.sold(p, k, w));
            case 3, 4 -> same("then " + p + " " + (k - 1) + " " + w,
                    () -> lots.then(p, k - 1, w), () -> model.then(p, k - 1, w));
            case 5 -> same("dark " + (k - 1), () -> lots.dark(k - 1), () -> model.dark(k - 1));
            case 6 -> same("first " + p, () -> lots.first(p), () -> model.first(p));
            case 7 -> same("secret", lots::secret, model::secret);
            case 8 -> same("haunt " + k, () -> lots.haunt(k), () -> model.haunt(k));
            case 9 -> {
                int h = one(0, 6);
                same("watch " + k + " " + h, () -> lots.watch(k, h), () -> model.watch(k, h));
            }
            case 10 -> same("way " + s + " " + t, () -> lots.way(s, t), () -> model.way(s, t));
            case 11, 12 -> same("sneak " + s + " " + t, () -> lots.sneak(s, t), () -> model.sneak(s, t));
            case 13 -> same("safe " + p, () -> lots.safe(p), () -> model.safe(p));
            case 14 -> same("toHide " + p, () -> lots.toHide(p), () -> model.toHide(p));
            case 15 -> same("toWin " + p + " " + o, () -> lots.toWin(p, o), () -> model.toWin(p, o));
            case 16 -> same("given " + (p - 1), () -> lots.given(p - 1), () -> model.given(p - 1));
            case 17 -> same("gossip " + p, () -> lots.gossip(p), () -> model.gossip(p));
            case 18 -> same("most " + w, () -> lots.most(w), () -> model.most(w));
            case 19 -> same("lantern " + s, () -> lots.lantern(s), () -> model.lantern(s));
            case 20 -> same("meet " + p + " " + o, () -> lots.meet(p, o), () -> model.meet(p, o));
            case 21 -> same("spends " + p + " " + (k - 1), () -> lots.spends(p, k - 1), () -> model.spends(p, k - 1));
            case 22 -> same("unknown " + p, () -> lots.unknown(p), () -> model.unknown(p));
            case 23 -> same("game " + p + " " + o + " " + w, () -> lots.game(p, o, w), () -> model.game(p, o, w));
            default -> askMore(s, k);
        }
    }

    private void askMore(int s, int k) {
        int w = one(0, 3);
        int seed = random.nextInt();
        switch (random.nextInt(4)) {
            case 0, 1 -> same("years " + seed + " " + (k - 1) + " " + w,
                    () -> lots.years(seed, k - 1, w), () -> model.years(seed, k - 1, w));
            case 2 -> same("otherwise " + w, () -> lots.otherwise(w), () -> model.otherwise(w));
            default -> same("look " + (w - 1), () -> lots.look(w - 1), () -> model.look(w - 1));
        }
        same("paths " + s, () -> lots.paths(s), () -> model.paths(s));
    }
}
