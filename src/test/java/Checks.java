import java.nio.charset.StandardCharsets;
import java.util.Arrays;
import java.util.function.IntSupplier;

/** Counts what is as due, and tells what isn't. */
final class Checks {
    private int passed = 0;
    private int failed = 0;

    void due(String what, Object want, Object got) {
        if (want.equals(got)) {
            passed++;
        } else {
            failed++;
            System.out.println(what + " answered " + got + ", due is " + want);
        }
    }

    /** The answer as a text, or throws.Name of what the call throws. */
    static String answer(IntSupplier call) {
        try {
            return String.valueOf(call.getAsInt());
        } catch (RuntimeException e) {
            return "throws." + e.getClass().getSimpleName();
        }
    }

    void is(String what, int want, IntSupplier call) {
        due(what, String.valueOf(want), answer(call));
    }

    void noSuch(String what, IntSupplier call) {
        due(what, "throws.NoSuchElementException", answer(call));
    }

    void illegal(String what, IntSupplier call) {
        due(what, "throws.IllegalArgumentException", answer(call));
    }

    /** Puts the text on the tape and reads it as a WARD. */
    static int tell(WatchLots lots, String text) {
        return tell(lots, text.getBytes(StandardCharsets.ISO_8859_1));
    }

    static int tell(WatchLots lots, byte[] text) {
        byte[] filled = Arrays.copyOf(text, (text.length + 19) / 20 * 20);
        for (int i = 0; i < filled.length; i += 20) {
            lots.feed(number(filled, i), number(filled, i + 4), number(filled, i + 8),
                    number(filled, i + 12), number(filled, i + 16));
        }
        return lots.ward(text.length);
    }

    static int number(byte[] bytes, int i) {
        return (bytes[i] & 255) << 24 | (bytes[i + 1] & 255) << 16 | (bytes[i + 2] & 255) << 8 | bytes[i + 3] & 255;
    }

    static WatchLots of(String text) {
        WatchLots lots = new WatchLots();
        int fault = tell(lots, text);
        if (fault != 0) {
            throw new IllegalStateException("fault " + fault + " at " + lots.fault() + " in " + text);
        }
        return lots;
    }

    /** The FAULT and its place; the # shows the place and isn't of the text. */
    void fault(int due, String marked) {
        int place = marked.indexOf('#');
        String text = marked.substring(0, place) + marked.substring(place + 1);
        WatchLots lots = new WatchLots();
        int got = tell(lots, text);
        due(marked, due + " at " + place, got + " at " + lots.fault());
        is("count(13) behind " + marked, 1, () -> lots.count(13));
        is("count(12) behind " + marked, 0, () -> lots.count(12));
    }

    /** The text is a WARD. */
    void good(String text) {
        WatchLots lots = new WatchLots();
        int got = tell(lots, text);
        due(text, "0 at -1", got + " at " + lots.fault());
        is("count(13) behind " + text, 0, () -> lots.count(13));
    }

    /** Prints the count; the exit code tells whether all is as due. */
    void end() {
        System.out.println(passed + " passed, " + failed + " failed");
        if (failed > 0) {
            System.exit(1);
        }
    }
}
