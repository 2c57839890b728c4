import java.util.ArrayList;
import java.util.List;

/** What can be seen of an object, as rows of a call and its answer. */
public final class Sight {
    private Sight() {
    }

    /** By calls that change nothing: count, of, part, digest. */
    public static List<String> now(GriefEngine e) {
        List<String> rows = new ArrayList<>();
        for (int what = 0; what < 8; what++) {
            rows.add("count(" + what + ") " + e.count(what));
        }
        for (int i = 0; i < e.count(0); i++) {
            for (int what = 0; what < 3; what++) {
                rows.add("of(" + i + ", " + what + ") " + e.of(i, what));
            }
        }
        rows.add("part(0) " + e.part(0));
        rows.add("part(1) " + e.part(1));
        rows.add("digest() " + e.digest());
        return rows;
    }

    /** What lies deeper, too: what may be undone, both images and what they keep of it, the text. */
    public static List<String> later(GriefEngine e) {
        List<String> rows = now(e);
        undoAll(e, rows);
        for (int i = 0; i < 2; i++) {
            rows.add("from(" + i + ") " + e.from(i));
            undoAll(e, rows);
        }
        rows.add("read() " + e.read());
        rows.add("behind it " + e.digest());
        return rows;
    }

    private static void undoAll(GriefEngine e, List<String> rows) {
        rows.add("digest() " + e.digest());
        for (int many = e.count(6); many > 0; many--) {
            rows.add("undo() " + e.undo() + ", digest() " + e.digest());
        }
    }
}
