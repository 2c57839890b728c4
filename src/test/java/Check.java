import java.util.List;
import java.util.function.Supplier;

/** Counts the answers that are not as due, and tells them. */
public final class Check {
    private int wrong = 0;

    public void due(String call, long got, long want) {
        if (got != want) {
            wrong++;
            System.out.println(call + " answered " + got + ", due is " + want);
        }
    }

    /** A refused call: its answer, one more of its reason in STATUS, and nothing else changed. */
    public void refused(String call, GriefEngine e, Call made, long want, int reason) {
        long digest = e.digest();
        int[] before = {e.status(0), e.status(1), e.status(2)};
        due(call, made.on(e), want);
        for (int what = 0; what < 3; what++) {
            due(call + ", then status(" + what + ")", e.status(what), before[what] + (what == reason ? 1 : 0));
        }
        due(call + ", then digest()", e.digest(), digest);
    }

    /** A call that changes nothing at all, and is no refusal. */
    public void only(String call, GriefEngine e, Call made, long want) {
        refused(call, e, made, want, -1);
    }

    /**
     * A refused call, on an object of its own: count, of, part and digest are as before, and all
     * that comes later is as with a twin that had no such call.
     */
    public void refusedApart(String call, Supplier<GriefEngine> maker, Call made, long want, int reason) {
        GriefEngine e = maker.get();
        List<String> before = Sight.now(e);
        int[] status = {e.status(0), e.status(1), e.status(2)};
        due(call, made.on(e), want);
        for (int what = 0; what < 3; what++) {
            due(call + ", then status(" + what + ")", e.status(what), status[what] + (what == reason ? 1 : 0));
        }
        same(call, Sight.now(e), before);
        same(call, Sight.later(e), Sight.later(maker.get()));
    }

    /** A call that is no refusal, and changes nothing, now or later. */
    public void onlyApart(String call, Supplier<GriefEngine> maker, Call made, long want) {
        refusedApart(call, maker, made, want, -1);
    }

    public void same(String call, List<String> got, List<String> want) {
        due(call + ", then how much is seen", got.size(), want.size());
        for (int k = 0; k < got.size() && k < want.size(); k++) {
            if (!got.get(k).equals(want.get(k))) {
                wrong++;
                System.out.println(call + ", then " + got.get(k) + ", due is " + want.get(k));
            }
        }
    }

    public static GriefEngine typed(GriefEngine e, String text) {
        e.clear();
        for (int k = 0; k < text.length(); k++) {
            e.type(text.charAt(k));
        }
        return e;
    }

    public void end() {
        System.out.println(wrong == 0 ? "all answers are as due" : wrong + " answers are not as due");
        if (wrong != 0) {
            System.exit(1);
        }
    }

    public interface Call {
        long on(GriefEngine e);
    }
}
