import java.util.function.Supplier;

/** Ranks at the document's bounds, each made anew, by far fewer than 512 calls. */
public final class Ranks {
    private static final String OF_MANY_ITEMS = "rank;driver 0 99;driver 1 99;driver 2 99;driver 3 99;"
        + "driver 4 99;driver 5 99;days 99 0;days 99 1;days 99 2;days 1 0;days 1 1;days 1 2";
    /** The last byte is one that the text needs. */
    static final String OF_150_BYTES = OF_MANY_ITEMS + " ".repeat(149 - OF_MANY_ITEMS.length()) + ";";

    private Ranks() {
    }

    /** Nothing but what is there at first. */
    public static GriefEngine none() {
        return new GriefEngine();
    }

    public static GriefEngine one() {
        GriefEngine e = new GriefEngine();
        e.driver(0, 50);
        return e;
    }

    /** Some of all that there is, nothing of it full. */
    public static GriefEngine some() {
        GriefEngine e = Check.typed(new GriefEngine(), "rank;driver 3 7;days 2 1;");
        e.driver(4, 60);
        e.driver(2, 33);
        e.driver(5, 99);
        e.image(1);
        e.days(30, 1);
        e.day(1, 0);
        e.note(0, 20, 0, 20, 0, 18);
        e.gone(2, 2, 59);
        e.starts(0, 2, 3);
        return e;
    }

    /** Six drivers, eight that may be undone, six notes, four gone, 150 bytes, both images. */
    public static GriefEngine full() {
        GriefEngine e = Check.typed(new GriefEngine(), OF_150_BYTES);
        for (int kind = 0; kind < 6; kind++) {
            e.driver(kind, 99 - 9 * kind);
        }
        e.days(3, 0);
        e.image(0);
        for (int k = 0; k < 8; k++) {
            e.day(k % 6, k % 3);
        }
        for (int k = 0; k < 6; k++) {
            e.note(k, 10 + k, k % 4, 20, k % 3, 9);
        }
        for (int k = 0; k < 4; k++) {
            e.gone(k, 1 + k, 50 + k);
        }
        e.image(1);
        e.days(2, 0);
        e.starts(1, 6, 1);
        return e;
    }

    /** As some(), on DAY 9999. */
    public static GriefEngine onLastDay() {
        GriefEngine e = some();
        for (int k = 0; k < 101; k++) {
            e.days(99, 2);
        }
        return e;
    }

    /** One of a kind that comes on a DAY. */
    public static GriefEngine oneOn(int dayNumber, int kind, int grief) {
        GriefEngine e = new GriefEngine();
        for (int left = dayNumber; left > 0; left -= 99) {
            e.days(Math.min(99, left), 2);
        }
        e.driver(kind, grief);
        return e;
    }

    /** All of them, for what holds in any state. */
    public static final String[] NAMES = {"none", "one", "some", "full", "on the last day"};

    public static Supplier<GriefEngine> named(String name) {
        return switch (name) {
            case "none" -> Ranks::none;
            case "one" -> Ranks::one;
            case "some" -> Ranks::some;
            case "full" -> Ranks::full;
            default -> Ranks::onLastDay;
        };
    }
}
