/** Promises 1 to 6: a new object, rank, driver, type, clear, read. */
public final class RankTest {
    private static final Check C = new Check();

    public static void main(String[] args) {
        aNewObject();
        rank();
        driver();
        typeAndClear();
        readWhatStands();
        readFaults();
        readTakesThePlaceOfAllBut();
        readThatFailsLeavesAll();
        C.end();
    }

    private static void aNewObject() {
        GriefEngine e = new GriefEngine();
        for (int what = 0; what < 8; what++) {
            C.due("new: count(" + what + ")", e.count(what), 0);
        }
        for (int what = 0; what < 3; what++) {
            C.due("new: status(" + what + ")", e.status(what), 0);
        }
        C.due("new: part(0)", e.part(0), 0);
        C.due("new: part(1)", e.part(1), 1);
        C.refused("new: from(0)", e, x -> x.from(0), -3, 1);
        C.refused("new: from(1)", e, x -> x.from(1), -3, 1);
        C.refused("new: undo()", e, x -> x.undo(), -3, 1);
        C.refused("new: of(0, 0)", e, x -> x.of(0, 0), -2, 0);
    }

    private static void rank() {
        GriefEngine e = Check.typed(new GriefEngine(), "ab");
        e.driver(0, 20);
        e.driver(1, 30);
        e.days(3, 0);
        e.note(0, 1, 1, 1, 1, 1);
        e.gone(1, 1, 1);
        e.starts(0, 1, 5);
        e.image(1);
        e.undo();
        e.days(1, 2);
        e.of(9, 9);
        C.due("rank()", e.rank(), 2);
        for (int what = 0; what < 7; what++) {
            C.due("rank: count(" + what + ")", e.count(what), 0);
        }
        C.due("rank: the text stays", e.count(7), 2);
        C.due("rank: the fraction stays", e.part(0), 13);
        C.due("rank: status stays", e.status(0), 1);
        C.refused("rank: undo()", e, x -> x.undo(), -3, 1);
        C.due("rank: images stay", e.from(1), 1);
        C.due("rank: image: count(0)", e.count(0), 2);
        C.due("rank: image: count(1)", e.count(1), 3);
        C.due("rank() again", e.rank(), 2);
        C.due("rank() of none", e.rank(), 0);
        e.driver(0, 5);
        C.due("rank: miles of a new one", e.of(0, 2), 0);
    }

    private static void driver() {
        GriefEngine e = new GriefEngine();
        for (int i = 0; i < 6; i++) {
            C.due("driver " + i, e.driver(5 - i, i == 0 ? 0 : 99 - i), i);
            C.due("its kind", e.of(i, 0), 5 - i);
            C.due("its grief", e.of(i, 1), i == 0 ? 0 : 99 - i);
            C.due("its miles", e.of(i, 2), 0);
        }
        C.refused("driver(0, 0), a 7th", e, x -> x.driver(0, 0), -4, 2);
        C.refused("driver(6, 0): bad ahead of full", e, x -> x.driver(6, 0), -2, 0);
        GriefEngine f = new GriefEngine();
        C.refused("driver(-1, 0)", f, x -> x.driver(-1, 0), -2, 0);
        C.refused("driver(6, 0)", f, x -> x.driver(6, 0), -2, 0);
        C.refused("driver(0, -1)", f, x -> x.driver(0, -1), -2, 0);
        C.refused("driver(0, 100)", f, x -> x.driver(0, 100), -2, 0);
        C.due("driver(0, 99)", f.driver(0, 99), 0);
        f.days(2, 0);
        C.due("behind days: that may be undone", f.count(6), 1);
        C.refused("driver(0, 100) takes nothing", f, x -> x.driver(0, 100), -2, 0);
        C.due("a driver later", f.driver(1, 5), 1);
        C.due("behind a driver: that may be undone", f.count(6), 0);
        C.refused("behind a driver: undo()", f, x -> x.undo(), -3, 1);
        C.due("the day stays", f.count(1), 2);
    }

    private static void typeAndClear() {
        GriefEngine e = new GriefEngine();
        C.refused("type(-1)", e, x -> x.type(-1), -2, 0);
        C.refused("type(128)", e, x -> x.type(128), -2, 0);
        C.due("clear() of none", e.clear(), 0);
        for (int k = 1; k <= 150; k++) {
            C.due("type " + k, e.type(k % 128), k);
        }
        C.refused("type(32), a 151st", e, x -> x.type(32), -4, 2);
        C.refused("type(128): bad ahead of full", e, x -> x.type(128), -2, 0);
        C.due("count(7)", e.count(7), 150);
        C.due("clear()", e.clear(), 150);
        C.due("clear() again", e.clear(), 0);
        C.due("type(0)", e.type(0), 1);
        C.due("type(127)", e.type(127), 2);
    }

    private static void reads(String text, int want) {
        C.due("read of \"" + text + "\"", Check.typed(new GriefEngine(), text).read(), want);
    }

    private static void readWhatStands() {
        reads("rank;", 1);
        reads("  rank  ;  ", 1);
        reads("rank;driver 0 0;", 2);
        reads("rank;driver5 99;days99 2;", 3);
        reads("rank;driver 05 09 ;days 01 00;", 3);
        reads("rank;days 1 0;driver 1 1;days 1 0;", 4);
        reads("rank;driver 0 0;driver 0 0;driver 0 0;driver 0 0;driver 0 0;driver 0 0;days 1 1;", 8);
        GriefEngine e = Check.typed(new GriefEngine(), "rank;driver 0 40;days 2 0;driver 1 9;days 20 1;");
        C.due("read()", e.read(), 5);
        C.due("read: drivers", e.count(0), 2);
        C.due("read: the day", e.count(1), 22);
        // 40 in winter: 40 miles, 35 left; 35 miles, 31 left; told 20 times: 99.
        C.due("read: miles of 0", e.of(0, 2), 75);
        C.due("read: grief of 0", e.of(0, 1), 99);
        C.due("read: kind of 1", e.of(1, 0), 1);
        C.due("read: grief of 1", e.of(1, 1), 89);
        C.due("read: miles of 1", e.of(1, 2), 0);
        C.due("read: the text stays", e.count(7), 47);
    }

    private static void readFaults() {
        reads("", -10);
        reads("   ", -13);
        reads("rank", -14);
        reads("rank ", -15);
        reads("ran", -10);
        reads("ranks;", -10);
        reads("sank;", -10);
        reads("rang;", -10);
        reads("rank;eriver 0 0;", -15);
        reads("rank;ways 1 0;", -15);
        reads("rank0;", -14);
        reads(" ;rank;", -11);
        reads("driver 0 0;rank;", -10);
        reads("7 rank;", -10);
        reads("RANK;", -10);
        reads("rank;;", -15);
        reads("rank;rank;", -15);
        reads("rank; rank;", -16);
        reads("rank;drivers 0 0;", -15);
        reads("rank;driver", -21);
        reads("rank;driver;", -21);
        reads("rank;driver 6 0;", -22);
        reads("rank;driver 60 0;", -22);
        reads("rank;driver 000 0;", -22);
        reads("rank;driver 0;", -23);
        reads("rank;driver 0", -23);
        reads("rank;driver 0 100;", -24);
        reads("rank;driver 0 0000000", -24);
        reads("rank;driver 0 00", -26);
        reads("rank;driver 0 0 0;", -26);
        reads("rank;driver 0 0 days", -26);
        reads("rank;driver 0 -1;", -24);
        reads("rank;days 0 0;", -20);
        reads("rank;days 00 0;", -20);
        reads("rank;days 100 0;", -20);
        reads("rank;days 99 3;", -23);
        reads("rank;days 9 9;", -22);
        reads("rank;days 1 0", -23);
        reads("rank;days 1 0; ;", -25);
        reads("rank;days 1\0000;", -21);
        reads("rank;\177", -15);
        reads("rank;\n", -15);
        reads("rank;driver 0 0;driver 0 0;driver 0 0;driver 0 0;driver 0 0;driver 0 0; driver 0 0;", -82);
        reads("rank;driver 0 0;driver 0 0;driver 0 0;driver 0 0;driver 0 0;driver 0 0;driver 9 x", -81);
    }

    private static void readTakesThePlaceOfAllBut() {
        GriefEngine e = new GriefEngine();
        e.driver(4, 50);
        e.driver(3, 50);
        e.days(5, 0);
        e.note(0, 1, 1, 1, 1, 1);
        e.gone(0, 1, 1);
        e.starts(0, 1, 0);
        long above = e.part(0);
        e.image(0);
        e.type(128);
        Check.typed(e, "rank;driver 2 30;days 1 0;");
        C.due("read()", e.read(), 3);
        C.due("read: drivers", e.count(0), 1);
        C.due("read: the day", e.count(1), 1);
        C.due("read: grief", e.count(2), 26);
        C.due("read: miles", e.count(3), 10);
        C.due("read: notes", e.count(4), 0);
        C.due("read: gone", e.count(5), 0);
        C.due("read: nothing to undo", e.count(6), 0);
        C.due("read: the text", e.count(7), 26);
        C.due("read: the fraction", e.part(0), above);
        C.due("read: status", e.status(0), 1);
        C.refused("read: undo()", e, x -> x.undo(), -3, 1);
        C.due("read: the image", e.from(0), 1);
        C.due("read: the image's drivers", e.count(0), 2);
    }

    private static void readThatFailsLeavesAll() {
        GriefEngine e = new GriefEngine();
        e.driver(0, 50);
        e.days(3, 0);
        Check.typed(e, "rank;driver 1 9;days 4 0;driver 1 100;");
        C.only("read() with a fault", e, x -> x.read(), -44);
        C.due("undo() behind it", e.undo(), 0);
    }
}
