/** All that an object shows, in one text; some 400 calls, and the object is of no use behind it. */
final class Whole {
    private Whole() {
    }

    /** But for STATUS: as it is now, behind each ACT that is UNDONE, and as the IMAGE has it. */
    static String of(WatchLots x) {
        StringBuilder b = new StringBuilder();
        b.append("the tape ").append(x.count(12)).append(" fault ").append(x.fault()).append('\n');
        b.append(withoutTape(x));
        b.append("\nthe tape reads ").append(x.ward(x.count(12))).append(" at ").append(x.fault());
        return b.toString();
    }

    static String withoutTape(WatchLots x) {
        StringBuilder b = new StringBuilder();
        for (int what = 0; what < 12; what++) {
            b.append(x.count(what)).append(' ');
        }
        ward(x, b);
        town(x, b);
        told(x, b);
        for (int left = x.undo(); left != WatchLots.NONE; left = x.undo()) {
            b.append("\nundo ").append(left);
            brief(x, b);
        }
        boolean isKept = x.restore();
        b.append("\nrestore ").append(isKept);
        for (int what = 0; what < (isKept ? 16 : 12); what++) {
            b.append(' ').append(what == 12 ? 0 : x.count(what));
        }
        town(x, b);
        told(x, b);
        b.append("\nundo ").append(x.undo());
        brief(x, b);
        return b.toString();
    }

    private static void ward(WatchLots x, StringBuilder b) {
        b.append("\npaths");
        for (int street = 0; street < x.count(0); street++) {
            b.append(' ').append(x.paths(street));
        }
        b.append(" watch");
        for (int k = 1; k <= 2; k++) {
            for (int hour = 0; hour < 6; hour++) {
                b.append(' ').append(x.watch(k, hour));
            }
        }
        b.append(" LOTS");
        for (int k = 1; k <= 9; k++) {
            b.append(' ').append(x.lots(k));
        }
        b.append(" given ").append(x.given(WatchLots.NONE)).append(" dark ").append(x.dark(1));
    }

    private static void town(WatchLots x, StringBuilder b) {
        b.append("\npeople");
        for (int who = 0; who < x.count(2); who++) {
            for (int what = 0; what < 5; what++) {
                b.append(' ').append(x.person(who, what));
            }
            b.append(" walk");
            for (int place = 0; place < x.person(who, 1); place++) {
                b.append(x.walk(who, place));
            }
        }
    }

    private static void told(WatchLots x, StringBuilder b) {
        b.append("\ntold ");
        for (int what = 0; what < 3; what++) {
            b.append(x.otherwise(what)).append(' ');
        }
        b.append("look ").append(x.look(0)).append(' ').append(x.look(1));
    }

    private static void brief(WatchLots x, StringBuilder b) {
        for (int what = 4; what < 12; what++) {
            b.append(' ').append(x.count(what));
        }
        for (int who = 0; who < x.count(2); who++) {
            b.append(' ').append(x.person(who, 0)).append(' ').append(x.person(who, 2));
            b.append(' ').append(x.walk(who, 0));
        }
    }
}
