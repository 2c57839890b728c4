/** A TEXT: where its FAULT is, at each place a token may stand, and that all stays then. */
public final class FaultTest {
    private static final Check C = new Check();
    private static final String SIX = "rank;driver 0 1;driver 0 1;driver 0 1;driver 0 1;driver 0 1;driver 0 1;";

    public static void main(String[] args) {
        endsTooEarly();
        aWordThatIsNone();
        rankAgain();
        anythingAheadOfRank();
        aSeventhDriver();
        threeFigures();
        numbersAtTheirBounds();
        aByteThatBeginsNone();
        aTokenOutOfPlace();
        blanks();
        theFirstFaultIsTold();
        theLastPlaceOfAll();
        allStays();
        aFaultBehindATextThatWasRead();
        aFaultIsNoRefusal();
        C.end();
    }

    private static void reads(String text, int items) {
        GriefEngine e = Check.typed(Ranks.one(), text);
        C.due("read of \"" + text + "\"", e.read(), items);
    }

    private static void fault(String text, int place) {
        GriefEngine e = Check.typed(Ranks.one(), text);
        long before = e.digest();
        C.due("read of \"" + text + "\"", e.read(), -10 - place);
        C.due("digest() behind \"" + text + "\"", e.digest(), before);
    }

    /** Cut between two tokens, it ends too early; cut in a word, that word is none. */
    private static void endsTooEarly() {
        fault("", 0);
        fault(" ", 1);
        String text = "rank;driver 5 99;days 99 2;";
        for (int length : new int[] {4, 11, 12, 13, 14, 15, 16, 21, 22, 23, 24, 25, 26}) {
            fault(text.substring(0, length), length);
            fault(text.substring(0, length) + "  ", length + 2);
        }
        for (int length : new int[] {1, 2, 3}) {
            fault(text.substring(0, length), 0);
        }
        for (int length : new int[] {6, 7, 8, 9, 10}) {
            fault(text.substring(0, length), 5);
        }
        for (int length : new int[] {18, 19, 20}) {
            fault(text.substring(0, length), 17);
        }
        reads(text.substring(0, 5), 1);
        reads(text.substring(0, 17), 2);
        reads(text, 3);
    }

    private static void aWordThatIsNone() {
        fault("ranks;", 0);
        fault("ran;", 0);
        fault("r;", 0);
        fault("xrank;", 0);
        fault("rankrank;", 0);
        fault("rank;day 1 0;", 5);
        fault("rank;dayss 1 0;", 5);
        fault("rank;drive 0 1;", 5);
        fault("rank;drivers 0 1;", 5);
        fault("rank;driverdays 0 1;", 5);
        fault("rank;a", 5);
        fault("rank;z", 5);
        fault("rank;driver 0 1;tell 0;", 16);
        fault("rank;  driver 0 1;  tell 0;", 20);
    }

    private static void rankAgain() {
        fault("rank;rank;", 5);
        fault("rank;rank", 5);
        fault("rank;driver 0 1;rank;", 16);
        fault("rank;days 1 0; rank ;", 15);
        fault("rank rank;", 5);
        fault("rank;driver rank", 12);
    }

    private static void anythingAheadOfRank() {
        fault("driver 0 1;rank;", 0);
        fault("days 1 0;rank;", 0);
        fault("  days 1 0;rank;", 2);
        fault(";rank;", 0);
        fault(" ;rank;", 1);
        fault("1rank;", 0);
        fault("123 rank;", 0);
        fault("-rank;", 0);
        fault("\tRank;", 0);
        reads(" rank;", 1);
    }

    private static void aSeventhDriver() {
        reads(SIX.substring(0, 60), 6);
        reads(SIX, 7);
        fault(SIX + "driver 0 1;", 71);
        fault(SIX + "driver", 71);
        fault(SIX + "driver 9 999", 71);
        fault(SIX + "  driver 0 1;", 73);
        fault(SIX + "days 1 0;driver 0 1;", 80);
        fault(SIX + "drivers", 71);
        reads(SIX + "days 1 0;days 1 0;", 9);
    }

    private static void threeFigures() {
        fault("rank;driver 000 1;", 12);
        fault("rank;driver 123456789 1;", 12);
        fault("rank;driver 0 100;", 14);
        fault("rank;driver 0 001;", 14);
        fault("rank;driver 0 0991", 14);
        fault("rank;days 001 0;", 10);
        fault("rank;days 100 0;", 10);
        fault("rank;days 1 000;", 12);
        fault("rank;days 1 002", 12);
        fault("rank;driver0 123", 13);
        fault("rank;driver 0" + "9".repeat(130), 12);
    }

    private static void numbersAtTheirBounds() {
        reads("rank;driver 0 0;", 2);
        reads("rank;driver 00 00;", 2);
        reads("rank;driver 5 99;", 2);
        reads("rank;driver 05 99;", 2);
        fault("rank;driver 6 99;", 12);
        fault("rank;driver 06 99;", 12);
        fault("rank;driver 10 99;", 12);
        fault("rank;driver 99 99;", 12);
        reads("rank;days 1 0;", 2);
        reads("rank;days 01 00;", 2);
        reads("rank;days 99 2;", 2);
        reads("rank;days 99 02;", 2);
        fault("rank;days 0 0;", 10);
        fault("rank;days 00 0;", 10);
        fault("rank;days 1 3;", 12);
        fault("rank;days 1 03;", 12);
        fault("rank;days 99 20;", 13);
        fault("rank;days 99 99;", 13);
    }

    private static void aByteThatBeginsNone() {
        for (int c = 0; c < 128; c++) {
            boolean begins = c >= 'a' && c <= 'z' || c >= '0' && c <= '9' || c == ';' || c == ' ';
            if (!begins) {
                String sign = String.valueOf((char) c);
                fault(sign, 0);
                fault(sign + "rank;", 0);
                fault("rank" + sign + ";", 4);
                fault("rank;" + sign, 5);
                fault("rank;driver" + sign, 11);
                fault("rank;driver 0 " + sign + "1;", 14);
                fault("rank;days 1" + sign + " 0;", 11);
                fault("rank;days 1 0" + sign, 13);
            }
        }
    }

    private static void aTokenOutOfPlace() {
        fault("rank 1;", 5);
        fault("rank driver 0 1;", 5);
        fault("rank;;", 5);
        fault("rank; ;", 6);
        fault("rank;1;", 5);
        fault("rank;99 driver", 5);
        fault("rank;driver;", 11);
        fault("rank;driver ; 1;", 12);
        fault("rank;driver days", 12);
        fault("rank;driver 0;", 13);
        fault("rank;driver 0 days", 14);
        fault("rank;driver 0 1 2;", 16);
        fault("rank;driver 0 1 driver", 16);
        fault("rank;driver 0 1driver", 15);
        fault("rank;days;", 9);
        fault("rank;days 1;", 11);
        fault("rank;days 1 driver", 12);
        fault("rank;days 1 0 0;", 14);
        fault("rank;days 1 0 days", 14);
        fault("rank;days 1 0;;", 14);
    }

    private static void blanks() {
        reads("   rank   ;   ", 1);
        reads(" rank ; driver  1   2 ; days  3   1 ; ", 3);
        reads("rank;driver1 2;days3 1;", 3);
        fault("ra nk;", 0);
        fault("rank;dri ver 0 1;", 5);
        fault("rank;driver 0 1 1;", 16);
        fault("rank;driver 11;", 12);
    }

    private static void theFirstFaultIsTold() {
        fault("rank;driver 6 100;", 12);
        fault("rank;driver 6 1;days 0 9;", 12);
        fault("rank;driver 0 1;days 0 9", 21);
        fault("rank;days 3 9;drivers", 12);
        fault("ranks;%", 0);
        fault("rank;%;rank;", 5);
        fault("rank;driver 0 1%driver 9", 15);
    }

    /** 150 bytes: the last one may be a fault, or the text may end too early behind it. */
    private static void theLastPlaceOfAll() {
        String text = Ranks.OF_150_BYTES;
        C.due("bytes", text.length(), 150);
        reads(text, 13);
        fault(text.substring(0, 149), 149);
        fault(text.substring(0, 149) + " ", 150);
        fault(text.substring(0, 149) + "%", 149);
        fault(text.substring(0, 149) + "7", 149);
        reads("rank;" + " ".repeat(145), 1);
        fault("rank;" + " ".repeat(144) + ";", 149);
        reads("rank;" + "days99 0;".repeat(16), 17);
    }

    private static GriefEngine withText(GriefEngine e, String text) {
        return Check.typed(e, text);
    }

    private static void allStays() {
        String faulty = "rank;driver 1 9;days 4 0;driver 1 100;";
        C.onlyApart("read() of none", () -> withText(Ranks.none(), faulty), x -> x.read(), -44);
        C.onlyApart("read() of some", () -> withText(Ranks.some(), faulty), x -> x.read(), -44);
        C.onlyApart("read() of full", () -> withText(Ranks.full(), faulty), x -> x.read(), -44);
        C.onlyApart("read() on the last day", () -> withText(Ranks.onLastDay(), faulty), x -> x.read(), -44);
        GriefEngine e = withText(Ranks.one(), faulty);
        e.days(3, 0);
        C.due("read()", e.read(), -44);
        C.due("read() again", e.read(), -44);
        C.due("the text stays", e.clear(), faulty.length());
        C.due("undo()", e.undo(), 0);
    }

    /** One text is read; each that comes behind it is looked at from its first byte on. */
    private static void aFaultBehindATextThatWasRead() {
        GriefEngine e = Check.typed(Ranks.none(), "rank;driver 1 9;days 4 0;");
        C.due("read()", e.read(), 3);
        int[] places = {0, 0, 0, 4, 0, 5};
        String[] texts = {"", "%", "ranks;", "rank", ";", "rank;rank;"};
        for (int k = 0; k < texts.length; k++) {
            Check.typed(e, texts[k]);
            int due = -10 - places[k];
            C.only("read() of \"" + texts[k] + "\" behind one that was read", e, x -> x.read(), due);
        }
        C.due("drivers", e.count(0), 1);
        C.due("the day", e.count(1), 4);
        Check.typed(e, "rank;");
        C.due("read() once more", e.read(), 1);
        C.due("drivers", e.count(0), 0);
    }

    private static void aFaultIsNoRefusal() {
        GriefEngine e = Ranks.one();
        C.due("read()", e.read(), -10);
        for (int what = 0; what < 3; what++) {
            C.due("status(" + what + ")", e.status(what), 0);
        }
    }
}
